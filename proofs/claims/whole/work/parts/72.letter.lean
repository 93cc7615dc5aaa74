/-! letters of names -/
theorem nmw_app {l : List Int} {c : Int} : nmw (l ++ [c]) = nmw l * 256 + (c + 96) := by
  unfold nmw
  rw [List.foldl_append]
  rfl
theorem nmw_b : ∀ (n : Nat) (l : List Int), l.length = n → (∀ c ∈ l, 1 ≤ c ∧ c ≤ 26) → 0 ≤ nmw l ∧ nmw l < 256 ^ n ∧ (n = 0 ∨ 0 < nmw l)
  | 0, l, hl, _ => by
    have : l = [] := List.eq_nil_of_length_eq_zero hl
    subst this
    exact ⟨Int.le_refl _, by decide, Or.inl rfl⟩
  | n + 1, l, hl, hc => by
    rcases List.eq_nil_or_concat l with e | ⟨l', c, e⟩
    · subst e; cases hl
    · rw [List.concat_eq_append] at e
      subst e
      rw [List.length_append, List.length_singleton] at hl
      have ih := nmw_b n l' (by omega) (fun x hx => hc x (List.mem_append_left _ hx))
      have cc := hc c (List.mem_append_right _ (List.mem_singleton.mpr rfl))
      rw [nmw_app, Int.pow_succ]
      refine ⟨by omega, by omega, Or.inr (by omega)⟩
theorem nmw_k : ∀ (n : Nat) (l : List Int) (k : Nat), l.length = n → (∀ c ∈ l, 1 ≤ c ∧ c ≤ 26) → k < n → nmw l / 256 ^ (n - 1 - k) % 256 = l.getD k 0 + 96
  | 0, l, k, hl, _, hk => by omega
  | n + 1, l, k, hl, hc, hk => by
    rcases List.eq_nil_or_concat l with e | ⟨l', c, e⟩
    · subst e; cases hl
    · rw [List.concat_eq_append] at e
      subst e
      rw [List.length_append, List.length_singleton] at hl
      have cc := hc c (List.mem_append_right _ (List.mem_singleton.mpr rfl))
      have h' : ∀ x ∈ l', 1 ≤ x ∧ x ≤ 26 := fun x hx => hc x (List.mem_append_left _ hx)
      rw [nmw_app]
      by_cases e : k = n
      · have e2 : (l' ++ [c]).getD k 0 = c := by
          rw [List.getD_eq_getElem?_getD, List.getElem?_append_right (by omega), show k - l'.length = 0 from by omega]
          rfl
        rw [e2, show n + 1 - 1 - k = 0 from by omega, Int.pow_zero, Int.ediv_one]
        omega
      · have ih := nmw_k n l' k (by omega) h' (by omega)
        have e2 : (l' ++ [c]).getD k 0 = l'.getD k 0 := by
          rw [List.getD_eq_getElem?_getD, List.getD_eq_getElem?_getD, List.getElem?_append_left (by omega)]
        rw [e2, show n + 1 - 1 - k = (n - 1 - k) + 1 from by omega, Int.pow_succ, Int.mul_comm (256 ^ (n - 1 - k)) 256, ← Int.ediv_ediv_of_nonneg (by decide), show (nmw l' * 256 + (c + 96)) / 256 = nmw l' from by omega]
        exact ih
theorem s_l64 : ∀ n, n < 64 → (((nI n).toInt64 &&& 63).toBitVec.smod 64).toNat = n := by decide +kernel
theorem srL_n {x : Int} {s : Nat} (h0 : 0 ≤ x) (h1 : x < 9223372036854775808) (hs : s < 64) : srL x (s : Int) = x / (2 ^ s : Nat) := by
  unfold srL
  rw [oI_nI]
  show ((Int64.ofInt x) >>> ((nI s).toInt64 &&& 63)).toBitVec.toInt = _
  rw [Int64.toBitVec_shiftRight]
  show ((Int64.ofInt x).toBitVec.sshiftRight (((nI s).toInt64 &&& 63).toBitVec.smod 64).toNat).toInt = _
  rw [s_l64 s hs, BitVec.toInt_sshiftRight]
  show (Int64.ofInt x).toInt >>> s = _
  rw [tL_oL ⟨by omega, h1⟩, Int.shiftRight_eq_div_pow]
theorem anL_255 {x : Int} (h0 : 0 ≤ x) (h1 : x < 9223372036854775808) : anL x 255 = x % 256 := by
  obtain ⟨n, rfl⟩ : ∃ n : Nat, x = n := ⟨x.toNat, by omega⟩
  unfold anL
  have e : Int64.ofInt (n : Int) &&& Int64.ofInt 255 = Int64.ofInt ((n % 256 : Nat) : Int) := by
    apply Int64.toBitVec_inj.1
    show BitVec.ofInt 64 (n : Int) &&& BitVec.ofInt 64 255 = BitVec.ofInt 64 ((n % 256 : Nat) : Int)
    rw [show (255 : Int) = ((255 : Nat) : Int) from rfl, BitVec.ofInt_natCast, BitVec.ofInt_natCast, BitVec.ofInt_natCast]
    apply BitVec.eq_of_toNat_eq
    rw [BitVec.toNat_and, BitVec.toNat_ofNat, BitVec.toNat_ofNat, BitVec.toNat_ofNat, show 255 % 2 ^ 64 = 2 ^ 8 - 1 from by decide, Nat.and_two_pow_sub_one_eq_mod]
    omega
  rw [e, tL_oL ⟨by omega, by omega⟩]
  omega
theorem nmc_6 {l : List Int} (h1 : l.length ≤ 6) : nmc l 6 = l.getD 0 0 * 14348907 + l.getD 1 0 * 531441 + l.getD 2 0 * 19683 + l.getD 3 0 * 729 + l.getD 4 0 * 27 + l.getD 5 0 := by
  match l, h1 with
  | [], _ => simp [nmc]
  | [a], _ => simp [nmc]
  | [a, b], _ => simp [nmc]
  | [a, b, c], _ => simp [nmc]; omega
  | [a, b, c, d], _ => simp [nmc]; omega
  | [a, b, c, d, e], _ => simp [nmc]; omega
  | [a, b, c, d, e, f], _ => simp [nmc]; omega
  | a :: b :: c :: d :: e :: f :: g :: r, h => simp at h
theorem getD_b {l : List Int} (h : ∀ c ∈ l, 1 ≤ c ∧ c ≤ 26) (k : Nat) : 0 ≤ l.getD k 0 ∧ l.getD k 0 ≤ 26 := by
  by_cases c : k < l.length
  · have := h (l.getD k 0) (by rw [List.getD_eq_getElem?_getD, List.getElem?_eq_getElem c]; exact List.getElem_mem c)
    omega
  · rw [List.getD_eq_getElem?_getD, List.getElem?_eq_none (by omega)]
    exact ⟨Int.le_refl _, by decide⟩
theorem letC_s {x i : Int} {n : Nat} (x0 : 0 ≤ x) (x1 : x < 387420489) (i1 : i < 6) (i0 : 0 ≤ i) : Ta_letterOf_L6 (n + 1) x i = Ta_letterOf_L6 n (x / 27) (i + 1) := by
  show Ta_letterOf_B6 _ _ _ = _
  unfold Ta_letterOf_B6
  rw [if_pos i1, dvI_n x0 (by omega) (by decide) (by decide), wI_ok (by omega) (by omega)]
theorem letC_e {x : Int} {n : Nat} (x0 : 0 ≤ x) (x1 : x < 387420489) : Ta_letterOf_L6 (n + 1) x 6 = some (x % 27) := by
  show Ta_letterOf_B6 _ _ _ = _
  unfold Ta_letterOf_B6
  rw [if_neg (by decide), rmI_n x0 (by omega) (by decide) (by decide)]
theorem letC {x d0 d1 d2 d3 d4 d5 : Int} (hx : x = d0 * 14348907 + d1 * 531441 + d2 * 19683 + d3 * 729 + d4 * 27 + d5) (h0 : 0 ≤ d0 ∧ d0 ≤ 26) (h1 : 0 ≤ d1 ∧ d1 ≤ 26) (h2 : 0 ≤ d2 ∧ d2 ≤ 26) (h3 : 0 ≤ d3 ∧ d3 ≤ 26) (h4 : 0 ≤ d4 ∧ d4 ≤ 26) (h5 : 0 ≤ d5 ∧ d5 ≤ 26) : Ta_letterOf x 0 = some d0 ∧ Ta_letterOf x 1 = some d1 ∧ Ta_letterOf x 2 = some d2 ∧ Ta_letterOf x 3 = some d3 ∧ Ta_letterOf x 4 = some d4 ∧ Ta_letterOf x 5 = some d5 := by
  have b0 : 0 ≤ x ∧ x < 387420489 := by omega
  have q1 : x / 27 = d0 * 531441 + d1 * 19683 + d2 * 729 + d3 * 27 + d4 := by omega
  have q2 : x / 27 / 27 = d0 * 19683 + d1 * 729 + d2 * 27 + d3 := by rw [q1]; omega
  have q3 : x / 27 / 27 / 27 = d0 * 729 + d1 * 27 + d2 := by rw [q2]; omega
  have q4 : x / 27 / 27 / 27 / 27 = d0 * 27 + d1 := by rw [q3]; omega
  have q5 : x / 27 / 27 / 27 / 27 / 27 = d0 := by rw [q4]; omega
  have b1 : 0 ≤ x / 27 ∧ x / 27 < 387420489 := by omega
  have b2 : 0 ≤ x / 27 / 27 ∧ x / 27 / 27 < 387420489 := by rw [q2]; omega
  have b3 : 0 ≤ x / 27 / 27 / 27 ∧ x / 27 / 27 / 27 < 387420489 := by rw [q3]; omega
  have b4 : 0 ≤ x / 27 / 27 / 27 / 27 ∧ x / 27 / 27 / 27 / 27 < 387420489 := by rw [q4]; omega
  have b5 : 0 ≤ x / 27 / 27 / 27 / 27 / 27 ∧ x / 27 / 27 / 27 / 27 / 27 < 387420489 := by rw [q5]; omega
  have e : ∀ (n : Nat), n = 999994 → 1000000 = n + 1 + 1 + 1 + 1 + 1 + 1 := fun n h => by omega
  have k5 : Ta_letterOf x 5 = some d5 := by
    show Ta_letterOf_L6 (999999 + 1) x 6 = _
    rw [letC_e b0.1 b0.2]; congr 1; omega
  have k4 : Ta_letterOf x 4 = some d4 := by
    show Ta_letterOf_L6 (999999 + 1) x 5 = _
    rw [letC_s b0.1 b0.2 (by decide) (by decide)]
    show Ta_letterOf_L6 (999998 + 1) _ 6 = _
    rw [letC_e b1.1 b1.2, q1]; congr 1; omega
  have k3 : Ta_letterOf x 3 = some d3 := by
    show Ta_letterOf_L6 (999999 + 1) x 4 = _
    rw [letC_s b0.1 b0.2 (by decide) (by decide)]
    show Ta_letterOf_L6 (999998 + 1) _ 5 = _
    rw [letC_s b1.1 b1.2 (by decide) (by decide)]
    show Ta_letterOf_L6 (999997 + 1) _ 6 = _
    rw [letC_e b2.1 b2.2, q2]; congr 1; omega
  have k2 : Ta_letterOf x 2 = some d2 := by
    show Ta_letterOf_L6 (999999 + 1) x 3 = _
    rw [letC_s b0.1 b0.2 (by decide) (by decide)]
    show Ta_letterOf_L6 (999998 + 1) _ 4 = _
    rw [letC_s b1.1 b1.2 (by decide) (by decide)]
    show Ta_letterOf_L6 (999997 + 1) _ 5 = _
    rw [letC_s b2.1 b2.2 (by decide) (by decide)]
    show Ta_letterOf_L6 (999996 + 1) _ 6 = _
    rw [letC_e b3.1 b3.2, q3]; congr 1; omega
  have k1 : Ta_letterOf x 1 = some d1 := by
    show Ta_letterOf_L6 (999999 + 1) x 2 = _
    rw [letC_s b0.1 b0.2 (by decide) (by decide)]
    show Ta_letterOf_L6 (999998 + 1) _ 3 = _
    rw [letC_s b1.1 b1.2 (by decide) (by decide)]
    show Ta_letterOf_L6 (999997 + 1) _ 4 = _
    rw [letC_s b2.1 b2.2 (by decide) (by decide)]
    show Ta_letterOf_L6 (999996 + 1) _ 5 = _
    rw [letC_s b3.1 b3.2 (by decide) (by decide)]
    show Ta_letterOf_L6 (999995 + 1) _ 6 = _
    rw [letC_e b4.1 b4.2, q4]; congr 1; omega
  have k0 : Ta_letterOf x 0 = some d0 := by
    show Ta_letterOf_L6 (999999 + 1) x 1 = _
    rw [letC_s b0.1 b0.2 (by decide) (by decide)]
    show Ta_letterOf_L6 (999998 + 1) _ 2 = _
    rw [letC_s b1.1 b1.2 (by decide) (by decide)]
    show Ta_letterOf_L6 (999997 + 1) _ 3 = _
    rw [letC_s b2.1 b2.2 (by decide) (by decide)]
    show Ta_letterOf_L6 (999996 + 1) _ 4 = _
    rw [letC_s b3.1 b3.2 (by decide) (by decide)]
    show Ta_letterOf_L6 (999995 + 1) _ 5 = _
    rw [letC_s b4.1 b4.2 (by decide) (by decide)]
    show Ta_letterOf_L6 (999994 + 1) _ 6 = _
    rw [letC_e b5.1 b5.2, q5]; congr 1; omega
  exact ⟨k0, k1, k2, k3, k4, k5⟩
theorem letM {m : zM} {k78 : Int → Int → Int → Option Int} {x3 x4 : Int} : ∀ (n : Nat) (l : List Int) (i : Int) (fuel : Nat), l.length = n → n ≤ 6 → (∀ c ∈ l, 1 ≤ c ∧ c ≤ 26) → n < fuel → 0 ≤ i → i + n ≤ 6 → M_letter_L58 k78 m fuel x3 x4 i (nmw l) = k78 x3 x4 (i + n)
  | 0, l, i, fuel, hl, _, _, hf, i0, i1 => by
    obtain ⟨f, rfl⟩ : ∃ q, fuel = q + 1 := ⟨fuel - 1, by omega⟩
    have : l = [] := List.eq_nil_of_length_eq_zero hl
    subst this
    show M_letter_B58 _ _ _ _ _ _ _ = _
    unfold M_letter_B58
    rw [if_neg (show ¬ 0 < nmw [] by decide)]
    congr 1
    omega
  | n + 1, l, i, fuel, hl, h6, hc, hf, i0, i1 => by
    obtain ⟨f, rfl⟩ : ∃ q, fuel = q + 1 := ⟨fuel - 1, by omega⟩
    have hb := nmw_b (n + 1) l hl hc
    have p6 : (256 : Int) ^ (n + 1) ≤ 256 ^ 6 := by
      have : ((256 ^ (n + 1) : Nat) : Int) ≤ ((256 ^ 6 : Nat) : Int) := Int.ofNat_le.mpr (Nat.pow_le_pow_right (by decide) (by omega))
      rw [Int.natCast_pow, Int.natCast_pow] at this
      exact this
    have p7 : (256 : Int) ^ 6 = 281474976710656 := by decide
    rcases List.eq_nil_or_concat l with e | ⟨l', c, e⟩
    · subst e; cases hl
    · rw [List.concat_eq_append] at e
      subst e
      rw [List.length_append, List.length_singleton] at hl
      have cc := hc c (List.mem_append_right _ (List.mem_singleton.mpr rfl))
      show M_letter_B58 _ _ _ _ _ _ _ = _
      unfold M_letter_B58
      rw [if_pos (by omega), show (8 : Int) = ((8 : Nat) : Int) from rfl, srL_n hb.1 (by omega) (by decide), nmw_app, wI_ok (by omega) (by omega), show (nmw l' * 256 + (c + 96)) / ((2 ^ 8 : Nat) : Int) = nmw l' from by show (nmw l' * 256 + (c + 96)) / 256 = nmw l'; omega]
      have ih := letM (m := m) (k78 := k78) (x3 := x3) (x4 := x4) n l' (i + 1) f (by omega) (by omega) (fun x hx => hc x (List.mem_append_left _ hx)) (by omega) (by omega) (by omega)
      rw [show i + 1 + (n : Int) = i + ((n + 1 : Nat) : Int) from by omega] at ih
      exact ih
/-- a name's k-th letter, in both -/
theorem let_ok {m : zM} {x w k : Int} (h : nmR x w) (k0 : 0 ≤ k) (k1 : k ≤ 5) : ∃ v, Ta_letterOf x k = some v ∧ M_letter_L58 (fun x3_21 x4_21 x6_21 => (if x3_21 < x6_21 then
  some (wI ((wI ((wI (anL (srL x4_21 (wI (8 * (wI ((wI (x6_21 - 1)) - x3_21))))) 255)) - 97)) + 1))
  else some 0)) m 1000000 k w 0 w = some v := by
  obtain ⟨l, l1, l6, hc, hw, hx⟩ := h
  have hb := nmw_b l.length l rfl hc
  have p6 : (256 : Int) ^ l.length ≤ 256 ^ 6 := by
    have : ((256 ^ l.length : Nat) : Int) ≤ ((256 ^ 6 : Nat) : Int) := Int.ofNat_le.mpr (Nat.pow_le_pow_right (by decide) (by omega))
    rw [Int.natCast_pow, Int.natCast_pow] at this
    exact this
  have p7 : (256 : Int) ^ 6 = 281474976710656 := by decide
  obtain ⟨q0, q1, q2, q3, q4, q5⟩ := letC (x := x) (by rw [hx]; exact nmc_6 l6) (getD_b hc 0) (getD_b hc 1) (getD_b hc 2) (getD_b hc 3) (getD_b hc 4) (getD_b hc 5)
  have eC : Ta_letterOf x k = some (l.getD k.toNat 0) := by
    have : k = 0 ∨ k = 1 ∨ k = 2 ∨ k = 3 ∨ k = 4 ∨ k = 5 := by omega
    rcases this with e | e | e | e | e | e <;> subst e <;> assumption
  refine ⟨_, eC, ?_⟩
  rw [hw]
  have e := letM (m := m) (k78 := fun x3_21 x4_21 x6_21 => (if x3_21 < x6_21 then
  some (wI ((wI ((wI (anL (srL x4_21 (wI (8 * (wI ((wI (x6_21 - 1)) - x3_21))))) 255)) - 97)) + 1))
  else some 0)) (x3 := k) (x4 := nmw l) l.length l 0 1000000 rfl l6 hc (by omega) (by omega) (by omega)
  rw [e, Int.zero_add]
  show (if k < (l.length : Int) then _ else _) = _
  by_cases c : k < (l.length : Int)
  · rw [if_pos c, wI_ok (x := (l.length : Int) - 1) (by omega) (by omega), wI_ok (x := (l.length : Int) - 1 - k) (by omega) (by omega), wI_ok (x := 8 * ((l.length : Int) - 1 - k)) (by omega) (by omega), show 8 * ((l.length : Int) - 1 - k) = ((8 * (l.length - 1 - k.toNat) : Nat) : Int) from by omega, srL_n hb.1 (by omega) (by omega)]
    have ek := nmw_k l.length l k.toNat rfl hc (by omega)
    have e256 : ((2 ^ (8 * (l.length - 1 - k.toNat)) : Nat) : Int) = 256 ^ (l.length - 1 - k.toNat) := by
      rw [Nat.pow_mul, Int.natCast_pow]
      rfl
    rw [e256]
    have hd := ediv_le hb.1 (show (0 : Int) < 256 ^ (l.length - 1 - k.toNat) from Int.pow_pos (by decide))
    have gb := getD_b hc k.toNat
    rw [anL_255 hd.1 (by omega), ek, wI_ok (x := l.getD k.toNat 0 + 96) (by omega) (by omega), wI_ok (x := l.getD k.toNat 0 + 96 - 97) (by omega) (by omega), wI_ok (by omega) (by omega)]
    congr 1
    omega
  · rw [if_neg c, List.getD_eq_getElem?_getD, List.getElem?_eq_none (by omega)]
    rfl
theorem rs_letter {mC mM : zM} {a b k : Int} (h : Rel mC mM) (ca : cI a) (cb : cI b) (ck : cI k) : wp (C_letter a b k mC) (fun p => wp (M_letter a b k mM) (fun q => p = q)) := by
  obtain ⟨z, Z, S, bk, hr⟩ := h.toZ
  obtain ⟨hz, h12, hs, hg, hu, hZ, hS⟩ := id hr
  have n1 := hg.nb
  have n2 := hg.ng
  have n3 := hg.bk
  have many : ∀ a, a = 0 ∨ a = 1 → M_manyOf bk a mM = some (if a = 0 then Z 0 0 else Z 0 1) := by
    intro a ha
    unfold M_manyOf
    rw [rd_ok (by omega) (by omega), rd_ok (by omega) (by omega), hg.1.1.1, hg.1.2.1.1]
    split <;> rfl
  have name : ∀ a b, a = 0 ∨ a = 1 → 0 ≤ b → b < (if a = 0 then Z 0 0 else Z 0 1) → M_nameOf bk a b mM = some (if a = 0 then mM 17 (6 * bk + b) else mM 18 (8 * bk + b)) := by
    intro a b ha b0 b1
    unfold M_nameOf
    by_cases e : a = 0
    · rw [if_pos e] at b1
      rw [if_pos e, if_pos e, wI_ok (x := 6 * bk) (by omega) (by omega), wI_ok (by omega) (by omega), rd_ok (by omega) (by omega)]
    · rw [if_neg e] at b1
      rw [if_neg e, if_neg e, wI_ok (x := 8 * bk) (by omega) (by omega), wI_ok (by omega) (by omega), rd_ok (by omega) (by omega)]
  unfold C_letter M_letter C_letter_b41
  rw [hg.2.2.1]
  simp only [mro_ok h12 (kdz hz), isBeast_ok hZ, isGuest_ok hZ, Option.bind_some]
  by_cases c : 0 ≤ k ∧ k ≤ 5
  · rw [if_neg (show ¬ k < 0 by omega), if_pos (show k < 6 by omega)]
    by_cases a0 : a = 0
    · subst a0
      rw [if_pos rfl, is_ok, Option.bind_some, if_pos (show (0 : Int) ≤ 0 ∧ (0 : Int) ≤ 1 by decide), if_neg n10, many 0 (Or.inl rfl), Option.bind_some, if_pos rfl, wI_ok (by omega) (by omega), is_ok, Option.bind_some, is_ok, Option.bind_some, if_pos c, if_neg n10]
      by_cases d : 0 ≤ b ∧ b < Z 0 0
      · rw [if_pos d, if_neg n10, rd_ok d.1 (by omega), if_pos (show 0 ≤ b ∧ b ≤ Z 0 0 - 1 by omega), if_neg n10, name 0 b (Or.inl rfl) d.1 (by rw [if_pos rfl]; exact d.2), Option.bind_some, if_pos rfl, rZ hZ 1 (by decide)]
        obtain ⟨v, v1, v2⟩ := let_ok (m := mM) (hg.1.2.2.2.2.2.2.2.2.2.2.1 b d.1 d.2) c.1 c.2
        rw [v1]
        exact wp_ee rfl v2
      · rw [if_neg d, if_pos p00, if_neg (show ¬ (0 : Int) = 1 by decide), if_neg (show ¬ (0 ≤ b ∧ b ≤ Z 0 0 - 1) by omega), if_pos p00]
        exact wp_ee rfl rfl
    · rw [if_neg a0]
      by_cases a1 : a = 1
      · subst a1
        rw [if_pos rfl, is_ok, Option.bind_some, if_pos (show (0 : Int) ≤ 1 ∧ (1 : Int) ≤ 1 by decide), if_neg n10, many 1 (Or.inr rfl), Option.bind_some, if_neg a0, wI_ok (by omega) (by omega), is_ok, Option.bind_some, is_ok, Option.bind_some, if_pos c, if_neg n10]
        by_cases d : 0 ≤ b ∧ b < Z 0 1
        · rw [if_pos d, if_neg n10, rd_ok d.1 (by omega), if_pos (show 0 ≤ b ∧ b ≤ Z 0 1 - 1 by omega), if_neg n10, name 1 b (Or.inr rfl) d.1 (by rw [if_neg a0]; exact d.2), Option.bind_some, if_neg a0, rZ hZ 6 (by decide)]
          obtain ⟨v, v1, v2⟩ := let_ok (m := mM) (hg.1.2.2.2.2.2.2.2.2.2.2.2.1 b d.1 d.2) c.1 c.2
          rw [v1]
          exact wp_ee rfl v2
        · rw [if_neg d, if_pos p00, if_neg (show ¬ (0 ≤ b ∧ b ≤ Z 0 1 - 1) by omega), if_pos p00]
          exact wp_ee rfl rfl
      · rw [if_neg a1, is_ok, Option.bind_some, if_neg (show ¬ (0 ≤ a ∧ a ≤ 1) by omega), if_pos p00]
        exact wp_ee rfl rfl
  · have eC : (if k < 0 then some (-1) else if k < 6 then (if a = 0 then (if (if 0 ≤ b ∧ b < Z 0 0 then (1 : Int) else 0) = 0 then (if a = 1 then (if (if 0 ≤ b ∧ b < Z 0 1 then (1 : Int) else 0) = 0 then some (-1) else rd (z + 6) 8 b mC (fun y8 => (Ta_letterOf y8 k).bind (fun r9 => some r9))) else some (-1)) else rd (z + 1) 6 b mC (fun y10 => (Ta_letterOf y10 k).bind (fun r11 => some r11))) else (if a = 1 then (if (if 0 ≤ b ∧ b < Z 0 1 then (1 : Int) else 0) = 0 then some (-1) else rd (z + 6) 8 b mC (fun y8 => (Ta_letterOf y8 k).bind (fun r9 => some r9))) else some (-1))) else some (-1)) = some (-1) := by
      by_cases q : k < 0
      · rw [if_pos q]
      · rw [if_neg q, if_neg (by omega)]
    rw [eC]
    refine wp_ee rfl ?_
    rw [is_ok, Option.bind_some]
    by_cases a01 : 0 ≤ a ∧ a ≤ 1
    · rw [if_pos a01, if_neg n10, many a (by omega), Option.bind_some]
      have hm : wI ((if a = 0 then Z 0 0 else Z 0 1) - 1) = (if a = 0 then Z 0 0 else Z 0 1) - 1 := by
        split <;> exact wI_ok (by omega) (by omega)
      rw [hm, is_ok, is_ok, Option.bind_some, Option.bind_some, if_neg c, if_pos p00]
      exact ite_self _
    · rw [if_neg a01, if_pos p00]
