/-! the text of a zoo: runs of bytes, numbers of words -/
theorem or64_nat {a b : Nat} (ha : a < 2 ^ 63) (hb : b < 2 ^ 63) : orL (a : Int) (b : Int) = ((a ||| b : Nat) : Int) := by
  unfold orL
  have h2 : a ||| b < 2 ^ 63 := Nat.or_lt_two_pow ha hb
  have e : Int64.ofInt (a : Int) ||| Int64.ofInt (b : Int) = Int64.ofInt ((a ||| b : Nat) : Int) := by
    apply Int64.toBitVec_inj.1
    show BitVec.ofInt 64 (a : Int) ||| BitVec.ofInt 64 (b : Int) = BitVec.ofInt 64 ((a ||| b : Nat) : Int)
    rw [BitVec.ofInt_natCast, BitVec.ofInt_natCast, BitVec.ofInt_natCast]
    apply BitVec.eq_of_toNat_eq
    rw [BitVec.toNat_or, BitVec.toNat_ofNat, BitVec.toNat_ofNat, BitVec.toNat_ofNat, Nat.mod_eq_of_lt (by omega), Nat.mod_eq_of_lt (by omega), Nat.mod_eq_of_lt (by omega)]
  rw [e, tL_oL ⟨by omega, by omega⟩]
theorem slL_8 {a : Nat} (ha : a < 2 ^ 55) : slL (a : Int) 8 = ((256 * a : Nat) : Int) := by
  unfold slL
  have e : Int64.ofInt (a : Int) <<< ((Int32.ofInt 8).toInt64 &&& 63) = Int64.ofInt ((256 * a : Nat) : Int) := by
    apply Int64.toBitVec_inj.1
    rw [Int64.toBitVec_shiftLeft]
    show BitVec.ofInt 64 (a : Int) <<< (((nI 8).toInt64 &&& 63).toBitVec.smod 64).toNat = BitVec.ofInt 64 ((256 * a : Nat) : Int)
    rw [s_l64 8 (by decide), BitVec.ofInt_natCast, BitVec.ofInt_natCast]
    apply BitVec.eq_of_toNat_eq
    rw [BitVec.toNat_shiftLeft, BitVec.toNat_ofNat, BitVec.toNat_ofNat, Nat.shiftLeft_eq]
    omega
  rw [e, tL_oL ⟨by omega, by omega⟩]
theorem orL_2 {w c : Int} (w0 : 0 ≤ w) (w1 : w < 36028797018963968) (c0 : 0 ≤ c) (c1 : c ≤ 255) : orL (slL w 8) c = w * 256 + c := by
  obtain ⟨x, rfl⟩ : ∃ k : Nat, w = (k : Int) := ⟨w.toNat, by omega⟩
  obtain ⟨y, rfl⟩ : ∃ k : Nat, c = (k : Int) := ⟨c.toNat, by omega⟩
  rw [slL_8 (by omega), or64_nat (by omega) (by omega)]
  have e := Nat.two_pow_add_eq_or_of_lt (b := y) (i := 8) (by omega) x
  rw [show (2 : Nat) ^ 8 = 256 from rfl] at e
  rw [← e]
  omega
def bB (c : Int) : Bool := decide (c = 32 ∨ c = 10)
def bL (c : Int) : Bool := decide (97 ≤ c ∧ c ≤ 122)
def bD (c : Int) : Bool := decide (48 ≤ c ∧ c ≤ 57)
theorem bB_t {c : Int} : bB c = true ↔ (c = 32 ∨ c = 10) := decide_eq_true_iff
theorem bL_t {c : Int} : bL c = true ↔ (97 ≤ c ∧ c ≤ 122) := decide_eq_true_iff
theorem bD_t {c : Int} : bD c = true ↔ (48 ≤ c ∧ c ≤ 57) := decide_eq_true_iff
theorem bB_f {c : Int} : bB c = false ↔ ¬ (c = 32 ∨ c = 10) := decide_eq_false_iff_not
theorem bL_f {c : Int} : bL c = false ↔ ¬ (97 ≤ c ∧ c ≤ 122) := decide_eq_false_iff_not
theorem bD_f {c : Int} : bD c = false ↔ ¬ (48 ≤ c ∧ c ≤ 57) := decide_eq_false_iff_not
theorem b_tf {b : Bool} (h : ¬ b = true) : b = false := by
  cases b
  · rfl
  · exact absurd rfl h
/-- from p on, all bytes up to q are so, and the one at q isn't -/
def Rn (f : Int → Bool) (t : Int → Int) (N p q : Int) : Prop := p ≤ q ∧ q ≤ N ∧ (∀ j, p ≤ j → j < q → f (t j) = true) ∧ (q = N ∨ f (t q) = false)
theorem Rn_ex {f : Int → Bool} {t : Int → Int} {N : Int} : ∀ (d : Nat) (p : Int), p + (d : Int) = N → ∃ q, Rn f t N p q
  | 0, p, h => ⟨p, by omega, by omega, fun j _ _ => by omega, Or.inl (by omega)⟩
  | d + 1, p, h => by
    by_cases c : f (t p) = true
    · obtain ⟨q, q1, q2, q3, q4⟩ := Rn_ex (f := f) (t := t) (N := N) d (p + 1) (by omega)
      refine ⟨q, by omega, q2, fun j j0 j1 => ?_, q4⟩
      by_cases e : j = p
      · rw [e]; exact c
      · exact q3 j (by omega) j1
    · exact ⟨p, by omega, by omega, fun j _ _ => by omega, Or.inr (b_tf c)⟩
theorem Rn.ex {f : Int → Bool} {t : Int → Int} {N p : Int} (h : p ≤ N) : ∃ q, Rn f t N p q := Rn_ex (N - p).toNat p (by omega)
theorem Rn.in {f : Int → Bool} {t : Int → Int} {N p q j : Int} (h : Rn f t N p q) (h0 : p ≤ j) (h1 : j < q) : j < N ∧ f (t j) = true := ⟨by have := h.2.1; omega, h.2.2.1 j h0 h1⟩
theorem Rn.end {f : Int → Bool} {t : Int → Int} {N p q : Int} (h : Rn f t N p q) (c : q < N) : f (t q) = false := by
  rcases h.2.2.2 with e | e
  · omega
  · exact e
theorem Rn.nz {f : Int → Bool} {t : Int → Int} {N p q : Int} (h : Rn f t N p q) (c : p < N) (hp : f (t p) = true) : p < q := by
  rcases h.2.2.2 with e | e
  · omega
  · by_cases w : p = q
    · rw [← w, hp] at e
      cases e
    · have := h.1
      omega
theorem isL_C1 {y : Int} (h : bL y = true) : Ta_isLetter y = some 1 := by
  rw [bL_t] at h
  unfold Ta_isLetter
  rw [if_neg (by omega), if_neg (by omega)]
theorem isL_C0 {y : Int} (h : bL y = false) : Ta_isLetter y = some 0 := by
  rw [bL_f] at h
  unfold Ta_isLetter
  by_cases c : y < 97
  · rw [if_pos c]
  · rw [if_neg c, if_pos (by omega)]
theorem isD_C1 {y : Int} (h : bD y = true) : Ta_isDigit y = some 1 := by
  rw [bD_t] at h
  unfold Ta_isDigit
  rw [if_neg (by omega), if_neg (by omega)]
theorem isD_C0 {y : Int} (h : bD y = false) : Ta_isDigit y = some 0 := by
  rw [bD_f] at h
  unfold Ta_isDigit
  by_cases c : y < 48
  · rw [if_pos c]
  · rw [if_neg c, if_pos (by omega)]
theorem isL_M1 {y : Int} (h : bL y = true) : M_isLetter y = some 1 := by
  rw [bL_t] at h
  unfold M_isLetter
  rw [if_neg (by omega), if_neg (by omega)]
theorem isL_M0 {y : Int} (h : bL y = false) : M_isLetter y = some 0 := by
  rw [bL_f] at h
  unfold M_isLetter
  by_cases c : y < 97
  · rw [if_pos c]
  · rw [if_neg c, if_pos (by omega)]
theorem isD_M1 {y : Int} (h : bD y = true) : M_isDigit y = some 1 := by
  rw [bD_t] at h
  unfold M_isDigit
  rw [if_neg (by omega), if_neg (by omega)]
theorem isD_M0 {y : Int} (h : bD y = false) : M_isDigit y = some 0 := by
  rw [bD_f] at h
  unfold M_isDigit
  by_cases c : y < 48
  · rw [if_pos c]
  · rw [if_neg c, if_pos (by omega)]
theorem upm_upm {m : zM} {a : Nat} {i v w : Int} : upm (upm m a i v) a i w = upm m a i w := by
  funext b
  by_cases h : b = a
  · subst h
    rw [upm_eq, upm_eq, upm_eq]
    funext j
    unfold sets
    by_cases e : j = i
    · rw [if_pos e, if_pos e]
    · rw [if_neg e, if_neg e, if_neg e]
  · rw [upm_ne h, upm_ne h, upm_ne h]
theorem upm_self {m : zM} {a : Nat} {i : Int} : upm m a i (m a i) = m := by
  funext b
  by_cases h : b = a
  · subst h
    rw [upm_eq]
    funext j
    unfold sets
    by_cases e : j = i
    · rw [if_pos e, e]
    · rw [if_neg e]
  · rw [upm_ne h]
theorem skip_C {m : zM} {q : Int} (h : Rn bB (m 3) (m 2 1) (m 2 8) q) (h0 : 0 ≤ m 2 8) (hN : m 2 1 ≤ 1600) : Ta_skipBlanks m = some (upm m 2 8 q) := by
  have K : ∀ (d n : Nat) (p : Int), p + (d : Int) = q → m 2 8 ≤ p → d < n → Ta_skipBlanks_L0 n (upm m 2 8 p) = some (upm m 2 8 q) := by
    intro d
    induction d with
    | zero =>
      intro n p hp h1 hn
      obtain ⟨n, rfl⟩ : ∃ k, n = k + 1 := ⟨n - 1, by omega⟩
      have e : p = q := by omega
      subst e
      show Ta_skipBlanks_B0 _ _ = _
      unfold Ta_skipBlanks_B0
      rw [ru3 rfl rfl, ru2 (by decide)]
      by_cases c : p < m 2 1
      · have w := h.end c
        rw [bB_f] at w
        rw [if_pos c, rd_ok (by omega) (by omega), if_neg (by rw [upm_ne (by decide)]; omega), rd_ok (by omega) (by omega), if_neg (by rw [upm_ne (by decide)]; omega)]
      · rw [if_neg c]
    | succ d ih =>
      intro n p hp h1 hn
      obtain ⟨n, rfl⟩ : ∃ k, n = k + 1 := ⟨n - 1, by omega⟩
      obtain ⟨w1, w2⟩ := h.in h1 (by omega : p < q)
      rw [bB_t] at w2
      have ih' := ih n (p + 1) (by omega) (by omega) (by omega)
      show Ta_skipBlanks_B0 _ _ = _
      unfold Ta_skipBlanks_B0
      rw [ru3 rfl rfl, ru2 (by decide), if_pos w1, rd_ok (by omega) (by omega), upm_ne (a := 2) (b := 3) (by decide)]
      by_cases c : m 3 p = 32
      · rw [if_pos c, wI_ok (by omega) (by omega), pf_ok, upm_upm]
        exact ih'
      · rw [if_neg c, rd_ok (by omega) (by omega), upm_ne (a := 2) (b := 3) (by decide), if_pos (by omega), wI_ok (by omega) (by omega), pf_ok, upm_upm]
        exact ih'
  have := K (q - m 2 8).toNat 1000000 (m 2 8) (by have := h.1; omega) (by omega) (by have := h.2.1; omega)
  rw [upm_self] at this
  exact this
theorem skip_M {m : zM} {K : Int → zM → Option zM} {q p : Int} (h : Rn bB (m 1) (m 0 2) p q) (h0 : 0 ≤ p) (hN : m 0 2 ≤ 1600) : M_ahead_L5 K 1000000 p m = K q m := by
  have Q : ∀ (d n : Nat) (p' : Int), p' + (d : Int) = q → p ≤ p' → d < n → M_ahead_L5 K n p' m = K q m := by
    intro d
    induction d with
    | zero =>
      intro n p' hp h1 hn
      obtain ⟨n, rfl⟩ : ∃ k, n = k + 1 := ⟨n - 1, by omega⟩
      have e : p' = q := by omega
      subst e
      show M_ahead_B5 _ _ _ _ = _
      unfold M_ahead_B5
      by_cases c : p' < m 0 2
      · have w := h.end c
        rw [bB_f] at w
        rw [if_pos c, rd_ok (by omega) (by omega), if_neg (by omega), rd_ok (by omega) (by omega), if_neg (by omega)]
      · rw [if_neg c]
    | succ d ih =>
      intro n p' hp h1 hn
      obtain ⟨n, rfl⟩ : ∃ k, n = k + 1 := ⟨n - 1, by omega⟩
      obtain ⟨w1, w2⟩ := h.in h1 (by omega : p' < q)
      rw [bB_t] at w2
      have ih' := ih n (p' + 1) (by omega) (by omega) (by omega)
      show M_ahead_B5 _ _ _ _ = _
      unfold M_ahead_B5
      rw [if_pos w1, rd_ok (by omega) (by omega)]
      by_cases c : m 1 p' = 32
      · rw [if_pos c, wI_ok (by omega) (by omega)]
        exact ih'
      · rw [if_neg c, rd_ok (by omega) (by omega), if_pos (by omega), wI_ok (by omega) (by omega)]
        exact ih'
  exact Q (q - p).toNat 1000000 p (by have := h.1; omega) (by omega) (by have := h.2.1; omega)
/-! numbers of words: the class's digits to the base 27, the model's bytes -/
def hcv (t : Int → Int) (a : Int) : Nat → Int
  | 0 => 0
  | k + 1 => hcv t a k * 27 + (t (a + (k : Int)) - 96)
def wdv (t : Int → Int) (a : Int) : Nat → Int
  | 0 => 0
  | k + 1 => wdv t a k * 256 + t (a + (k : Int))
def nuv (t : Int → Int) (a : Int) : Nat → Int
  | 0 => 0
  | k + 1 => nuv t a k * 10 + (t (a + (k : Int)) - 48)
def ltl (t : Int → Int) (a : Int) : Nat → List Int
  | 0 => []
  | k + 1 => ltl t a k ++ [t (a + (k : Int)) - 96]
theorem ltl_len {t : Int → Int} {a : Int} : ∀ k, (ltl t a k).length = k
  | 0 => rfl
  | k + 1 => by
    unfold ltl
    rw [List.length_append, ltl_len k]
    rfl
theorem ltl_b {t : Int → Int} {a : Int} : ∀ k : Nat, (∀ j, a ≤ j → j < a + (k : Int) → bL (t j) = true) → ∀ c ∈ ltl t a k, 1 ≤ c ∧ c ≤ 26
  | 0, _, c, hc => by cases hc
  | k + 1, h, c, hc => by
    unfold ltl at hc
    rcases List.mem_append.mp hc with e | e
    · exact ltl_b k (fun j j0 j1 => h j j0 (by omega)) c e
    · have w := h (a + (k : Int)) (by omega) (by omega)
      rw [bL_t] at w
      have := List.mem_singleton.mp e
      omega
theorem wdv_l {t : Int → Int} {a : Int} : ∀ k, wdv t a k = nmw (ltl t a k)
  | 0 => rfl
  | k + 1 => by
    unfold ltl wdv
    rw [nmw_app, wdv_l k]
    omega
theorem nmc_nil : ∀ n, nmc [] n = 0
  | 0 => rfl
  | n + 1 => by
    show 0 * 27 ^ n + nmc [] n = 0
    rw [nmc_nil n]
    omega
theorem hcv_f {acc : Int} : ∀ (l : List Int) (n : Nat), l.length ≤ n → ∀ acc : Int, l.foldl (fun x c => x * 27 + c) acc * 27 ^ (n - l.length) = acc * 27 ^ n + nmc l n
  | [], n, _, acc => by
    rw [nmc_nil]
    show acc * 27 ^ (n - 0) = _
    rw [Nat.sub_zero]
    omega
  | c :: l, 0, h, acc => by
    simp at h
  | c :: l, n + 1, h, acc => by
    have ih := hcv_f (acc := acc) l n (by simpa using h) (acc * 27 + c)
    show l.foldl (fun x c => x * 27 + c) (acc * 27 + c) * 27 ^ (n + 1 - (l.length + 1)) = acc * 27 ^ (n + 1) + (c * 27 ^ n + nmc l n)
    rw [Nat.add_sub_add_right, ih, Int.add_mul, Int.pow_succ, Int.mul_assoc, Int.mul_comm 27]
    omega
theorem hcv_l {t : Int → Int} {a : Int} : ∀ k, hcv t a k = (ltl t a k).foldl (fun x c => x * 27 + c) 0
  | 0 => rfl
  | k + 1 => by
    unfold ltl hcv
    rw [List.foldl_append, ← hcv_l k]
    rfl
theorem hcv_n {t : Int → Int} {a : Int} {k : Nat} (h : k ≤ 6) : hcv t a k * 27 ^ (6 - k) = nmc (ltl t a k) 6 := by
  have e := hcv_f (acc := 0) (ltl t a k) 6 (by rw [ltl_len]; exact h) 0
  rw [ltl_len, ← hcv_l] at e
  omega
theorem hcv_b {t : Int → Int} {a : Int} : ∀ k : Nat, (∀ j, a ≤ j → j < a + (k : Int) → bL (t j) = true) → 0 ≤ hcv t a k ∧ hcv t a k < 27 ^ k
  | 0, _ => ⟨Int.le_refl _, show (0 : Int) < 27 ^ 0 by decide⟩
  | k + 1, h => by
    have ih := hcv_b k (fun j j0 j1 => h j j0 (by omega))
    have w := h (a + (k : Int)) (by omega) (by omega)
    rw [bL_t] at w
    unfold hcv
    rw [Int.pow_succ]
    omega
theorem wdv_b {t : Int → Int} {a : Int} : ∀ k : Nat, (∀ j, a ≤ j → j < a + (k : Int) → bL (t j) = true) → 0 ≤ wdv t a k ∧ wdv t a k < 256 ^ k
  | 0, _ => ⟨Int.le_refl _, show (0 : Int) < 256 ^ 0 by decide⟩
  | k + 1, h => by
    have ih := wdv_b k (fun j j0 j1 => h j j0 (by omega))
    have w := h (a + (k : Int)) (by omega) (by omega)
    rw [bL_t] at w
    unfold wdv
    rw [Int.pow_succ]
    omega
theorem nuv_b {t : Int → Int} {a : Int} : ∀ k : Nat, (∀ j, a ≤ j → j < a + (k : Int) → bD (t j) = true) → 0 ≤ nuv t a k ∧ nuv t a k < 10 ^ k
  | 0, _ => ⟨Int.le_refl _, show (0 : Int) < 10 ^ 0 by decide⟩
  | k + 1, h => by
    have ih := nuv_b k (fun j j0 j1 => h j j0 (by omega))
    have w := h (a + (k : Int)) (by omega) (by omega)
    rw [bD_t] at w
    unfold nuv
    rw [Int.pow_succ]
    omega
theorem p27 {k : Nat} (h : k ≤ 6) : (27 : Int) ^ k ≤ 387420489 ∧ 1 ≤ (27 : Int) ^ k := by
  rcases (by omega : k = 0 ∨ k = 1 ∨ k = 2 ∨ k = 3 ∨ k = 4 ∨ k = 5 ∨ k = 6) with e | e | e | e | e | e | e <;> subst e <;> decide
theorem p27s {k : Nat} (h : k ≤ 5) : (27 : Int) ^ k ≤ 14348907 := by
  rcases (by omega : k = 0 ∨ k = 1 ∨ k = 2 ∨ k = 3 ∨ k = 4 ∨ k = 5) with e | e | e | e | e | e <;> subst e <;> decide
theorem pw256 {k : Nat} (h : k ≤ 6) : (256 : Int) ^ k ≤ 281474976710656 := by
  rcases (by omega : k = 0 ∨ k = 1 ∨ k = 2 ∨ k = 3 ∨ k = 4 ∨ k = 5 ∨ k = 6) with e | e | e | e | e | e | e <;> subst e <;> decide
theorem p10 {k : Nat} (h : k ≤ 4) : (10 : Int) ^ k ≤ 10000 := by
  rcases (by omega : k = 0 ∨ k = 1 ∨ k = 2 ∨ k = 3 ∨ k = 4) with e | e | e | e | e <;> subst e <;> decide
theorem nm_R {t : Int → Int} {a : Int} {k : Nat} (h1 : 1 ≤ k) (h6 : k ≤ 6) (h : ∀ j, a ≤ j → j < a + (k : Int) → bL (t j) = true) : nmR (hcv t a k * 27 ^ (6 - k)) (wdv t a k) := ⟨ltl t a k, by rw [ltl_len]; exact h1, by rw [ltl_len]; exact h6, ltl_b k h, wdv_l k, hcv_n h6⟩
/-! names that are alike -/
theorem nmc_b : ∀ (n : Nat) (l : List Int), (∀ c ∈ l, 1 ≤ c ∧ c ≤ 26) → 0 ≤ nmc l n ∧ nmc l n < 27 ^ n
  | 0, l, _ => by
    cases l
    · exact ⟨Int.le_refl _, show (0 : Int) < 27 ^ 0 by decide⟩
    · exact ⟨Int.le_refl _, show (0 : Int) < 27 ^ 0 by decide⟩
  | n + 1, [], _ => by
    rw [nmc_nil]
    have := Int.pow_pos (n := 27) (m := n + 1) (by decide)
    omega
  | n + 1, c :: l, h => by
    have ih := nmc_b n l (fun x hx => h x (List.mem_cons_of_mem _ hx))
    have hc := h c (List.mem_cons_self ..)
    show 0 ≤ c * 27 ^ n + nmc l n ∧ c * 27 ^ n + nmc l n < 27 ^ (n + 1)
    have p := Int.pow_pos (n := 27) (m := n) (by decide)
    have m1 := Int.mul_le_mul_of_nonneg_right hc.2 (Int.le_of_lt p)
    have m0 := Int.mul_nonneg (show 0 ≤ c by omega) (Int.le_of_lt p)
    rw [Int.pow_succ]
    omega
theorem nmc_inj : ∀ (n : Nat) (l l' : List Int), l.length ≤ n → l'.length ≤ n → (∀ c ∈ l, 1 ≤ c ∧ c ≤ 26) → (∀ c ∈ l', 1 ≤ c ∧ c ≤ 26) → nmc l n = nmc l' n → l = l'
  | 0, l, l', h, h', _, _, _ => by
    rw [List.eq_nil_of_length_eq_zero (Nat.le_zero.mp h), List.eq_nil_of_length_eq_zero (Nat.le_zero.mp h')]
  | n + 1, [], [], _, _, _, _, _ => rfl
  | n + 1, [], c :: l', _, _, _, hb', e => by
    exfalso
    rw [nmc_nil] at e
    have hc := hb' c (List.mem_cons_self ..)
    have b := nmc_b n l' (fun x hx => hb' x (List.mem_cons_of_mem _ hx))
    have p := Int.pow_pos (n := 27) (m := n) (by decide)
    have m1 := Int.mul_le_mul_of_nonneg_right hc.1 (Int.le_of_lt p)
    have e2 : nmc (c :: l') (n + 1) = c * 27 ^ n + nmc l' n := rfl
    omega
  | n + 1, c :: l, [], _, _, hb, _, e => by
    exfalso
    rw [nmc_nil] at e
    have hc := hb c (List.mem_cons_self ..)
    have b := nmc_b n l (fun x hx => hb x (List.mem_cons_of_mem _ hx))
    have p := Int.pow_pos (n := 27) (m := n) (by decide)
    have m1 := Int.mul_le_mul_of_nonneg_right hc.1 (Int.le_of_lt p)
    have e2 : nmc (c :: l) (n + 1) = c * 27 ^ n + nmc l n := rfl
    omega
  | n + 1, c :: l, c' :: l', h, h', hb, hb', e => by
    have b := nmc_b n l (fun x hx => hb x (List.mem_cons_of_mem _ hx))
    have b' := nmc_b n l' (fun x hx => hb' x (List.mem_cons_of_mem _ hx))
    have p := Int.pow_pos (n := 27) (m := n) (by decide)
    have e2 : c * 27 ^ n + nmc l n = c' * 27 ^ n + nmc l' n := e
    have ec : c = c' := by
      rcases Int.lt_trichotomy c c' with q | q | q
      · have m1 := Int.mul_le_mul_of_nonneg_right (show c + 1 ≤ c' by omega) (Int.le_of_lt p)
        rw [Int.add_mul] at m1
        omega
      · exact q
      · have m1 := Int.mul_le_mul_of_nonneg_right (show c' + 1 ≤ c by omega) (Int.le_of_lt p)
        rw [Int.add_mul] at m1
        omega
    subst ec
    rw [nmc_inj n l l' (by simpa using h) (by simpa using h') (fun x hx => hb x (List.mem_cons_of_mem _ hx)) (fun x hx => hb' x (List.mem_cons_of_mem _ hx)) (by omega)]
theorem nmw_inj : ∀ (n : Nat) (l l' : List Int), l.length ≤ n → (∀ c ∈ l, 1 ≤ c ∧ c ≤ 26) → (∀ c ∈ l', 1 ≤ c ∧ c ≤ 26) → nmw l = nmw l' → l = l'
  | n, l, l', hn, hb, hb', e => by
    rcases List.eq_nil_or_concat l with q | ⟨k, c, q⟩
    · rcases List.eq_nil_or_concat l' with q' | ⟨k', c', q'⟩
      · rw [q, q']
      · exfalso
        rw [List.concat_eq_append] at q'
        subst q
        have b := nmw_b l'.length l' rfl hb'
        have e0 : nmw [] = 0 := rfl
        rw [q', List.length_append, List.length_singleton] at b
        rw [q'] at e
        omega
    · rcases List.eq_nil_or_concat l' with q' | ⟨k', c', q'⟩
      · exfalso
        rw [List.concat_eq_append] at q
        subst q'
        have b := nmw_b l.length l rfl hb
        have e0 : nmw [] = 0 := rfl
        rw [q, List.length_append, List.length_singleton] at b
        rw [q] at e
        omega
      · rw [List.concat_eq_append] at q q'
        subst q
        subst q'
        rw [nmw_app, nmw_app] at e
        rw [List.length_append, List.length_singleton] at hn
        have c0 := hb c (List.mem_append_right _ (List.mem_singleton.mpr rfl))
        have c1 := hb' c' (List.mem_append_right _ (List.mem_singleton.mpr rfl))
        obtain ⟨n, rfl⟩ : ∃ j, n = j + 1 := ⟨n - 1, by omega⟩
        have ih := nmw_inj n k k' (by omega) (fun x hx => hb x (List.mem_append_left _ hx)) (fun x hx => hb' x (List.mem_append_left _ hx)) (by omega)
        rw [ih, show c = c' from by omega]
theorem nmR.iff {x w x' w' : Int} (h : nmR x w) (h' : nmR x' w') : x = x' ↔ w = w' := by
  obtain ⟨l, l1, l2, l3, l4, l5⟩ := h
  obtain ⟨k, k1, k2, k3, k4, k5⟩ := h'
  constructor
  · intro e
    rw [l4, k4, nmc_inj 6 l k l2 k2 l3 k3 (by omega)]
  · intro e
    rw [l5, k5, nmw_inj l.length l k (Nat.le_refl _) l3 k3 (by omega)]
