/-! sums and tests: one evaluation, and both programs come to it -/
def clp (x : Int) : Int := max (-1000000) (min 1000000 x)
def fdv (a b : Int) : Int := if b = 0 then 0 else if ((a < 0 ∧ 0 ≤ b) ∨ (0 ≤ a ∧ b < 0)) ∧ a.tdiv b * b ≠ a then a.tdiv b - 1 else a.tdiv b
def jn (op a b : Int) : Int :=
  if op = 3 then min a b else if op = 4 then max a b
  else if op = 7 then (if a = 1 ∧ b = 1 then 1 else 0) else if op = 8 then (if a = 1 ∨ b = 1 then 1 else 0)
  else if op = 37 then (if b = 0 then 0 else clp (a - b * fdv a b)) else if op = 42 then clp (a * b)
  else if op = 43 then clp (a + b) else if op = 45 then clp (a - b) else if op = 47 then clp (fdv a b)
  else if op = 60 then (if a < b then 1 else 0) else if op = 61 then (if a = b then 1 else 0) else (if b < a then 1 else 0)
def cst (sc : Int → Int) (c : Int) (st : List Int) : List Int :=
  if c % 256 = 1 then (c / 256) :: st
  else if c % 256 = 2 then sc (c / 256) :: st
  else if c % 256 = 6 then (match st with | a :: R => (1 - a) :: R | _ => st)
  else if c % 256 = 5 then (match st with | z :: y :: x :: R => (if x = 0 then z else y) :: R | _ => st)
  else (match st with | b :: a :: R => jn (c % 256) a b :: R | _ => st)
def evS (cd sc : Int → Int) : Nat → List Int
  | 0 => []
  | n + 1 => cst sc (cd (n : Int)) (evS cd sc n)
def okv (t : Bool) (v : Int) : Prop := -1000000 ≤ v ∧ v ≤ 1000000 ∧ (t = true → v = 0 ∨ v = 1)
def typ : List Bool → List Int → Prop
  | [], [] => True
  | t :: T, v :: R => okv t v ∧ typ T R
  | _, _ => False
def stk (f : Int → Int) : List Int → Prop
  | [] => True
  | a :: R => f (R.length : Int) = a ∧ stk f R
theorem stk_set : ∀ {st : List Int} {f : Int → Int} {i v : Int}, (st.length : Int) ≤ i → stk f st → stk (sets f i v) st
  | [], _, _, _, _, _ => trivial
  | a :: R, f, i, v, h, hs => by
    have e : ((a :: R).length : Int) = (R.length : Int) + 1 := by simp
    refine ⟨?_, stk_set (by omega) hs.2⟩
    rw [sets_ne (by omega)]
    exact hs.1
theorem typ_len : ∀ {T : List Bool} {st : List Int}, typ T st → st.length = T.length
  | [], [], _ => rfl
  | t :: T, v :: R, h => by
    have := typ_len h.2
    simp [this]
theorem typ_cons {t : Bool} {T : List Bool} {st : List Int} (h : typ (t :: T) st) : ∃ v R, st = v :: R ∧ okv t v ∧ typ T R := by
  cases st with
  | nil => exact h.elim
  | cons v R => exact ⟨v, R, rfl, h.1, h.2⟩
/-- the operations of two -/
def bop (c s : Int) : Prop := (c = 3 ∧ s = 36) ∨ (c = 4 ∧ s = 37) ∨ (c = 7 ∧ s = 41) ∨ (c = 8 ∧ s = 42) ∨ (c = 43 ∧ s = 31) ∨ (c = 45 ∧ s = 32) ∨ (c = 42 ∧ s = 33) ∨ (c = 47 ∧ s = 34) ∨ (c = 37 ∧ s = 35) ∨ (c = 60 ∧ s = 38) ∨ (c = 62 ∧ s = 39) ∨ (c = 61 ∧ s = 40)
theorem crel_cases {c s v : Int} (h : crel c s v) : (c % 256 = 1 ∧ 0 ≤ c ∧ c < 2560000 ∧ 0 ≤ c / 256 ∧ c / 256 ≤ 9999 ∧ ((s = 0 ∧ v = c / 256) ∨ (s = 30 ∧ c / 256 = 1))) ∨ (c % 256 = 2 ∧ 0 ≤ c ∧ c < 2560 ∧ 0 ≤ c / 256 ∧ s = c / 256 + 1 ∧ c / 256 ≤ 8) ∨ (c = 6 ∧ s = 43) ∨ (c = 5 ∧ s = 44) ∨ bop c s := by
  unfold crel at h
  unfold bop
  rcases h with ⟨h1, h2, h3⟩ | ⟨h1, h2, h3, h4⟩ | h | h | h | h | h | h | h | h | h | h | h | h | h | h
  · refine Or.inl ⟨h1, h2, ?_, ?_, ?_, ?_⟩
    · rcases h3 with ⟨_, _, q⟩ | ⟨_, q⟩ <;> omega
    · omega
    · rcases h3 with ⟨_, _, q⟩ | ⟨_, q⟩ <;> omega
    · rcases h3 with ⟨q, q2, _⟩ | q
      · exact Or.inl ⟨q, q2⟩
      · exact Or.inr q
  · exact Or.inr (Or.inl ⟨h1, h2, by omega, by omega, h3, h4⟩)
  · exact Or.inr (Or.inr (Or.inr (Or.inr (Or.inl h))))
  · exact Or.inr (Or.inr (Or.inr (Or.inr (Or.inr (Or.inl h)))))
  · exact Or.inr (Or.inr (Or.inr (Or.inl h)))
  · exact Or.inr (Or.inr (Or.inl h))
  · exact Or.inr (Or.inr (Or.inr (Or.inr (Or.inr (Or.inr (Or.inl h))))))
  · exact Or.inr (Or.inr (Or.inr (Or.inr (Or.inr (Or.inr (Or.inr (Or.inl h)))))))
  · exact Or.inr (Or.inr (Or.inr (Or.inr (Or.inr (Or.inr (Or.inr (Or.inr (Or.inl h))))))))
  · exact Or.inr (Or.inr (Or.inr (Or.inr (Or.inr (Or.inr (Or.inr (Or.inr (Or.inr (Or.inl h)))))))))
  · exact Or.inr (Or.inr (Or.inr (Or.inr (Or.inr (Or.inr (Or.inr (Or.inr (Or.inr (Or.inr (Or.inl h))))))))))
  · exact Or.inr (Or.inr (Or.inr (Or.inr (Or.inr (Or.inr (Or.inr (Or.inr (Or.inr (Or.inr (Or.inr (Or.inl h)))))))))))
  · exact Or.inr (Or.inr (Or.inr (Or.inr (Or.inr (Or.inr (Or.inr (Or.inr (Or.inr (Or.inr (Or.inr (Or.inr (Or.inl h))))))))))))
  · exact Or.inr (Or.inr (Or.inr (Or.inr (Or.inr (Or.inr (Or.inr (Or.inr (Or.inr (Or.inr (Or.inr (Or.inr (Or.inr (Or.inl h)))))))))))))
  · exact Or.inr (Or.inr (Or.inr (Or.inr (Or.inr (Or.inr (Or.inr (Or.inr (Or.inr (Or.inr (Or.inr (Or.inr (Or.inr (Or.inr (Or.inl h))))))))))))))
  · exact Or.inr (Or.inr (Or.inr (Or.inr (Or.inr (Or.inr (Or.inr (Or.inr (Or.inr (Or.inr (Or.inr (Or.inr (Or.inr (Or.inr (Or.inr (h)))))))))))))))
theorem bop_f {c s : Int} (h : bop c s) : (c % 256 = c ∧ 0 ≤ c ∧ c < 256) ∧ (c ≠ 1 ∧ c ≠ 2 ∧ c ≠ 5 ∧ c ≠ 6) ∧ 31 ≤ s ∧ s ≤ 42 := by
  rcases h with ⟨rfl, rfl⟩ | ⟨rfl, rfl⟩ | ⟨rfl, rfl⟩ | ⟨rfl, rfl⟩ | ⟨rfl, rfl⟩ | ⟨rfl, rfl⟩ | ⟨rfl, rfl⟩ | ⟨rfl, rfl⟩ | ⟨rfl, rfl⟩ | ⟨rfl, rfl⟩ | ⟨rfl, rfl⟩ | ⟨rfl, rfl⟩ <;> decide
theorem bop_g {c s : Int} (h : bop c s) (hs : 38 ≤ s) : c = 7 ∨ c = 8 ∨ c = 60 ∨ c = 61 ∨ c = 62 := by
  rcases h with ⟨rfl, rfl⟩ | ⟨rfl, rfl⟩ | ⟨rfl, rfl⟩ | ⟨rfl, rfl⟩ | ⟨rfl, rfl⟩ | ⟨rfl, rfl⟩ | ⟨rfl, rfl⟩ | ⟨rfl, rfl⟩ | ⟨rfl, rfl⟩ | ⟨rfl, rfl⟩ | ⟨rfl, rfl⟩ | ⟨rfl, rfl⟩ <;> first | (exfalso; revert hs; decide) | decide
theorem clp_b (x : Int) : -1000000 ≤ clp x ∧ clp x ≤ 1000000 := by unfold clp; omega
theorem fdv_b {a b : Int} (ha : -1000000 ≤ a ∧ a ≤ 1000000) : -1000001 ≤ fdv a b ∧ fdv a b ≤ 1000000 := by
  unfold fdv
  have := (tdv_b a b).2
  split
  · omega
  · split <;> omega
theorem jn_b {c s a b : Int} (h : bop c s) (ha : -1000000 ≤ a ∧ a ≤ 1000000) (hb : -1000000 ≤ b ∧ b ≤ 1000000) : -1000000 ≤ jn c a b ∧ jn c a b ≤ 1000000 := by
  have e1 := clp_b (a - b * fdv a b)
  have e2 := clp_b (a * b)
  have e3 := clp_b (a + b)
  have e4 := clp_b (a - b)
  have e5 := clp_b (fdv a b)
  clear h
  unfold jn
  generalize clp (a - b * fdv a b) = x1 at *
  generalize clp (a * b) = x2 at *
  generalize clp (a + b) = x3 at *
  generalize clp (a - b) = x4 at *
  generalize clp (fdv a b) = x5 at *
  repeat' split
  all_goals omega
theorem jn_t {c s a b : Int} (h : bop c s) (hs : 38 ≤ s) (hs2 : s ≤ 42) : jn c a b = 0 ∨ jn c a b = 1 := by
  have q := bop_g h hs
  clear h
  unfold jn
  rcases q with q | q | q | q | q <;> subst q <;> simp only [Int.reduceEq, ↓reduceIte] <;> split <;> simp
theorem tst_num {s : Int} {T : List Bool} (h : 0 ≤ s ∧ s ≤ 9) : tst s T = some (false :: T) := by
  unfold tst
  rw [if_pos h]
theorem tst_all {T : List Bool} : tst 30 T = some (true :: T) := rfl
theorem tst_not {T T' : List Bool} (h : tst 43 T = some T') : ∃ R, T = true :: R ∧ T' = true :: R := by
  unfold tst at h
  simp only [Int.reduceLE, and_self, and_true, and_false, false_and, Int.reduceEq, or_self, ↓reduceIte] at h
  split at h
  · cases h; exact ⟨_, rfl, rfl⟩
  · cases h
theorem tst_if {T T' : List Bool} (h : tst 44 T = some T') : ∃ R, T = false :: false :: true :: R ∧ T' = false :: R := by
  unfold tst at h
  simp only [Int.reduceLE, and_self, and_true, and_false, false_and, Int.reduceEq, or_self, ↓reduceIte] at h
  split at h
  · cases h; exact ⟨_, rfl, rfl⟩
  · cases h
theorem tst_two {s : Int} {T T' : List Bool} (h1 : 31 ≤ s) (h2 : s ≤ 42) (h : tst s T = some T') : ∃ t1 t2 t3 R, T = t2 :: t1 :: R ∧ T' = t3 :: R ∧ (38 ≤ s → t3 = true) ∧ (s ≤ 37 → t3 = false) ∧ (41 ≤ s → t1 = true ∧ t2 = true) := by
  unfold tst at h
  rw [if_neg (by omega), if_neg (by omega)] at h
  by_cases q1 : s ≤ 37
  · rw [if_pos (by omega)] at h
    split at h
    · cases h; exact ⟨_, _, _, _, rfl, rfl, by omega, fun _ => rfl, by omega⟩
    · cases h
  · rw [if_neg (by omega)] at h
    by_cases q2 : s ≤ 40
    · rw [if_pos (by omega)] at h
      split at h
      · cases h; exact ⟨_, _, _, _, rfl, rfl, fun _ => rfl, by omega, by omega⟩
      · cases h
    · rw [if_neg (by omega), if_pos (by omega)] at h
      split at h
      · cases h; exact ⟨_, _, _, _, rfl, rfl, fun _ => rfl, by omega, fun _ => ⟨rfl, rfl⟩⟩
      · cases h
theorem cst_two {sc : Int → Int} {c s a b : Int} {R : List Int} (h : bop c s) : cst sc c (b :: a :: R) = jn c a b :: R := by
  obtain ⟨⟨e1, e2, e3⟩, ⟨f1, f2, f3, f4⟩, _⟩ := bop_f h
  unfold cst
  rw [e1, if_neg f1, if_neg f2, if_neg f4, if_neg f3]
theorem cst_not {sc : Int → Int} {a : Int} {R : List Int} : cst sc 6 (a :: R) = (1 - a) :: R := by
  unfold cst
  rw [if_neg (by decide), if_neg (by decide), if_pos (by decide)]
theorem cst_if {sc : Int → Int} {x y z : Int} {R : List Int} : cst sc 5 (z :: y :: x :: R) = (if x = 0 then z else y) :: R := by
  unfold cst
  rw [if_neg (by decide), if_neg (by decide), if_neg (by decide), if_pos (by decide)]
/-- a step keeps the types -/
theorem typ_step {sc : Int → Int} {c s v mx : Int} {T T' : List Bool} {st : List Int} (hc : crel c s v) (hx : s ≤ mx ∨ 30 ≤ s) (hT : tst s T = some T') (ht : typ T st) (hsc : ∀ i, 0 ≤ i → i < mx → -1000000 ≤ sc i ∧ sc i ≤ 1000000) : typ T' (cst sc c st) := by
  rcases crel_cases hc with ⟨h1, h2, h3, h4, h5, h6⟩ | ⟨h1, h2, h3, h4, h5, h6⟩ | ⟨h1, h2⟩ | ⟨h1, h2⟩ | h
  · unfold cst
    rw [if_pos h1]
    rcases h6 with ⟨e, _⟩ | ⟨e, e2⟩
    · rw [tst_num (by omega)] at hT
      cases hT
      exact ⟨⟨by omega, by omega, fun q => by cases q⟩, ht⟩
    · subst e
      rw [tst_all] at hT
      cases hT
      exact ⟨⟨by omega, by omega, fun _ => by omega⟩, ht⟩
  · unfold cst
    rw [if_neg (by omega), if_pos h1]
    rw [tst_num (by omega)] at hT
    cases hT
    have := hsc (c / 256) (by omega) (by omega)
    exact ⟨⟨this.1, this.2, fun q => by cases q⟩, ht⟩
  · subst h1 h2
    obtain ⟨R, rfl, rfl⟩ := tst_not hT
    obtain ⟨v, R2, rfl, o1, o2⟩ := typ_cons ht
    rw [cst_not]
    have := o1.2.2 rfl
    exact ⟨⟨by omega, by omega, fun _ => by omega⟩, o2⟩
  · subst h1 h2
    obtain ⟨R, rfl, rfl⟩ := tst_if hT
    obtain ⟨z, R2, rfl, o1, o2⟩ := typ_cons ht
    obtain ⟨y, R3, rfl, o3, o4⟩ := typ_cons o2
    obtain ⟨x, R4, rfl, o5, o6⟩ := typ_cons o4
    rw [cst_if]
    refine ⟨?_, o6⟩
    split
    · exact o1
    · exact o3
  · have hs := (bop_f h).2.2
    obtain ⟨t1, t2, t3, R, rfl, rfl, q1, q2, q3⟩ := tst_two hs.1 hs.2 hT
    obtain ⟨b, R2, rfl, o1, o2⟩ := typ_cons ht
    obtain ⟨a, R3, rfl, o3, o4⟩ := typ_cons o2
    rw [cst_two h]
    have e := jn_b h ⟨o3.1, o3.2.1⟩ ⟨o1.1, o1.2.1⟩
    refine ⟨⟨e.1, e.2, fun q => ?_⟩, o4⟩
    by_cases w : 38 ≤ s
    · exact jn_t h w hs.2
    · rw [q2 (by omega)] at q
      cases q
