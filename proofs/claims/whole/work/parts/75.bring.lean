/-! bring: who is best brought to whom -/
def pcN (s : Nat) : Nat := (s.testBit 0).toNat + (s.testBit 1).toNat + (s.testBit 2).toNat + (s.testBit 3).toNat + (s.testBit 4).toNat + (s.testBit 5).toNat + (s.testBit 6).toNat + (s.testBit 7).toNat
theorem bitsC : ∀ s : Nat, s < 256 → J_bitCount_0f7a4 (s : Int) = some (pcN s : Int) := by decide +kernel
theorem bitsM8 : ∀ s : Nat, s < 256 → M_bits_L4 20 0 (s : Int) = some (pcN s : Int) := by decide +kernel
theorem bits_up : ∀ (n k : Nat) (x y v : Int), M_bits_L4 n x y = some v → M_bits_L4 (n + k) x y = some v
  | 0, k, x, y, v, h => by cases h
  | n + 1, k, x, y, v, h => by
    rw [show n + 1 + k = (n + k) + 1 from by omega]
    have h' : M_bits_B4 (M_bits_L4 n) x y = some v := h
    show M_bits_B4 (M_bits_L4 (n + k)) x y = some v
    unfold M_bits_B4 at h' ⊢
    by_cases c : y = 0
    · rw [if_pos c] at h' ⊢
      exact h'
    · rw [if_neg c] at h' ⊢
      exact bits_up n k _ _ v h'
theorem bitsM (s : Nat) (hs : s < 256) : M_bits (s : Int) = some (pcN s : Int) := bits_up 20 999980 0 s _ (bitsM8 s hs)
theorem pc_b (s : Nat) : pcN s ≤ 8 := by
  unfold pcN
  have : ∀ b : Bool, b.toNat ≤ 1 := by decide
  have a0 := this (s.testBit 0)
  have a1 := this (s.testBit 1)
  have a2 := this (s.testBit 2)
  have a3 := this (s.testBit 3)
  have a4 := this (s.testBit 4)
  have a5 := this (s.testBit 5)
  have a6 := this (s.testBit 6)
  have a7 := this (s.testBit 7)
  omega
def canV (lb : Nat → Nat → Int) (ush : Int) (b g s : Nat) : Bool := !s.testBit g && decide ((pcN s : Int) < ush) && decide (0 < lb b g)
def brG (lb : Nat → Nat → Int) (ush : Int) (b : Nat) (nx : Nat → Int) (s : Nat) : Nat → Int
  | 0 => nx s
  | g + 1 => if canV lb ush b g s = true then max (brG lb ush b nx s g) (lb b g + nx (s ||| 2 ^ g)) else brG lb ush b nx s g
def brV (lb : Nat → Nat → Int) (ush : Int) (ng nb : Nat) : Nat → Nat → Int
  | 0, _ => 0
  | r + 1, s => brG lb ush (nb - (r + 1)) (brV lb ush ng nb r) s ng
theorem brG_b {lb : Nat → Nat → Int} {ush : Int} {b : Nat} {nx : Nat → Int} {M : Int} (hl : ∀ g, g < 8 → 0 ≤ lb b g ∧ lb b g ≤ 999) (hn : ∀ s, 0 ≤ nx s ∧ nx s ≤ M) (s : Nat) : ∀ g, g ≤ 8 → 0 ≤ brG lb ush b nx s g ∧ brG lb ush b nx s g ≤ M + 999
  | 0, _ => by
    have := hn s
    unfold brG
    omega
  | g + 1, hg => by
    have ih := brG_b (ush := ush) hl hn s g (by omega)
    have := hn (s ||| 2 ^ g)
    have := hl g (by omega)
    unfold brG
    split <;> omega
theorem brV_b {lb : Nat → Nat → Int} {ush : Int} {ng nb : Nat} (hng : ng ≤ 8) (hl : ∀ b g, g < 8 → 0 ≤ lb b g ∧ lb b g ≤ 999) : ∀ r s, 0 ≤ brV lb ush ng nb r s ∧ brV lb ush ng nb r s ≤ 999 * r
  | 0, s => ⟨Int.le_refl _, by show (0 : Int) ≤ _; omega⟩
  | r + 1, s => by
    have ih := brV_b (ush := ush) (nb := nb) hng hl r
    have := brG_b (ush := ush) (b := nb - (r + 1)) (M := 999 * r) (fun g hg => hl _ g hg) ih s ng hng
    unfold brV
    omega
theorem or_lt {s g ng : Nat} (hs : s < 2 ^ ng) (hg : g < ng) : s ||| 2 ^ g < 2 ^ ng := Nat.or_lt_two_pow hs (Nat.pow_lt_pow_right (by decide) hg)
theorem p256 {ng : Nat} (h : ng ≤ 8) : 2 ^ ng ≤ 256 := Nat.pow_le_pow_right (show 0 < 2 by decide) h
/-- the likings that count: 0 where one fears the other -/
def lbV (Z S : zM) (b g : Nat) : Int := if (b : Int) < Z 0 0 ∧ (g : Int) < Z 0 1 then (if feV Z b g = 0 then LMV Z S b g else 0) else 0
theorem LM_b {Z S mM : zM} {bk v b g : Int} (h : GG Z S mM bk v) (b0 : 0 ≤ b) (b1 : b < Z 0 0) (g0 : 0 ≤ g) (g1 : g < Z 0 1) : 0 ≤ LMV Z S b g ∧ LMV Z S b g ≤ 999 := by
  have := h.lk b0 b1 g0 g1
  unfold LMV
  split <;> omega
theorem lb_b {Z S mM : zM} {bk v : Int} (h : GG Z S mM bk v) : ∀ b g : Nat, g < 8 → 0 ≤ lbV Z S b g ∧ lbV Z S b g ≤ 999 := by
  intro b g hg
  unfold lbV
  by_cases c : (b : Int) < Z 0 0 ∧ (g : Int) < Z 0 1
  · rw [if_pos c]
    have := LM_b h (b := b) (g := g) (by omega) c.1 (by omega) c.2
    split <;> omega
  · rw [if_neg c]; omega
theorem lb_in {Z S : zM} {b g : Nat} (hb : (b : Int) < Z 0 0) (hg : (g : Int) < Z 0 1) : lbV Z S b g = if feV Z b g = 0 then LMV Z S b g else 0 := if_pos ⟨hb, hg⟩
/-! the class -/
/-- what the class's rows hold -/
def brC (Z S m : zM) (z : Nat) : Prop := zv m z = Z ∧ ∀ b g : Nat, (b : Int) < Z 0 0 → (g : Int) < Z 0 1 → m 26 ((b : Int) * 8 + (g : Int)) = LMV Z S b g
theorem canC {Z S mM m : zM} {z b g s : Nat} {bk : Int} (h : GG Z S mM bk 0) (hm : brC Z S m z) (hb : (b : Int) < Z 0 0) (hg : (g : Int) < Z 0 1) (hs : s < 256) : Br_canBring z 26 48 (b : Int) (g : Int) (s : Int) m = some (if canV (lbV Z S) (Z 0 14) b g s = true then 1 else 0) := by
  have n1 := h.nb
  have n2 := h.ng
  have lm := LM_b h (b := b) (g := g) (by omega) hb (by omega) hg
  unfold Br_canBring
  rw [bit_1 (by omega) (by omega), bitsC s hs, Option.bind_some, rZ0 hm.1, wI_ok (x := (b : Int) * 8) (by omega) (by omega), wI_ok (x := (b : Int) * 8 + (g : Int)) (by omega) (by omega), rd_ok (by omega) (by omega), hm.2 b g hb hg, feared_ok hm.1 (by omega) (by omega), Option.bind_some]
  unfold canV
  rw [lb_in hb hg]
  by_cases c1 : s.testBit g = true
  · rw [if_pos c1, if_neg n10, if_neg (by simp [c1])]
  · rw [if_neg c1, if_pos p00]
    by_cases c2 : (pcN s : Int) < Z 0 14
    · rw [if_pos c2]
      by_cases c3 : 0 < LMV Z S b g
      · rw [if_pos c3]
        by_cases c4 : feV Z b g = 0
        · rw [if_pos c4, if_pos (by simp [c1, c2, c3, c4])]
        · rw [if_neg c4, if_neg (by simp [c4])]
      · rw [if_neg c3, if_neg (by
          simp only [Bool.and_eq_true, decide_eq_true_eq]
          intro t
          have := t.2
          split at this <;> omega)]
    · rw [if_neg c2, if_neg (by simp [c2])]
theorem can_lb {lb : Nat → Nat → Int} {ush : Int} {b g s : Nat} (h : canV lb ush b g s = true) : s.testBit g = false ∧ (pcN s : Int) < ush ∧ 0 < lb b g := by
  unfold canV at h
  simp at h
  exact ⟨h.1.1, h.1.2, h.2⟩
theorem withC {Z S mM m : zM} {z b g s ng nb : Nat} {bk : Int} (h : GG Z S mM bk 0) (hm : brC Z S m z) (hb : b < nb) (hnb : (nb : Int) = Z 0 0) (hg : g < ng) (hng : (ng : Int) = Z 0 1) (hs : s < 2 ^ ng) (hc : canV (lbV Z S) (Z 0 14) b g s = true) {nx : Nat → Int} (hx : ∀ s : Nat, s < 2 ^ ng → m (33 + (b + 1)) (s : Int) = nx s) (hn : ∀ s, 0 ≤ nx s ∧ nx s ≤ 100000) : Br_with 26 48 (b : Int) (g : Int) (s : Int) m = some (lbV Z S b g + nx (s ||| 2 ^ g)) := by
  have n1 := h.nb
  have n2 := h.ng
  have p := p256 (ng := ng) (by omega)
  have ol := or_lt hs hg
  have hl := lb_b h b g (by omega)
  have ol2 : (s ||| 2 ^ g) < 256 := by omega
  have gl : 2 ^ g < 2 ^ ng := Nat.pow_lt_pow_right (by decide) hg
  have lb := lb_in (Z := Z) (S := S) (b := b) (g := g) (by omega) (by omega)
  have cl := (can_lb hc).2.2
  have elm : LMV Z S b g = lbV Z S b g := by
    rw [lb] at cl ⊢
    split at cl
    · next q => rw [if_pos q]
    · omega
  have hnn := hn (s ||| 2 ^ g)
  unfold Br_with
  rw [wI_ok (x := (b : Int) * 8) (by omega) (by omega), wI_ok (x := (b : Int) * 8 + (g : Int)) (by omega) (by omega), rd_ok (by omega) (by omega), hm.2 b g (by omega) (by omega), wI_ok (x := (b : Int) + 1) (by omega) (by omega), gi_ok (by omega) (by omega), slI_1 (by omega), orI_nat (by omega) (by omega), rd_ok (by omega) (by omega), show 32 + 1 + ((b : Int) + 1).toNat = 33 + (b + 1) from by omega, hx _ ol, elm, wI_ok (by omega) (by omega)]
theorem mostC {Z S mM m : zM} {z b s ng nb : Nat} {bk : Int} (h : GG Z S mM bk 0) (hm : brC Z S m z) (hb : b < nb) (hnb : (nb : Int) = Z 0 0) (hng : (ng : Int) = Z 0 1) (hs : s < 2 ^ ng) {nx : Nat → Int} (hx : ∀ s : Nat, s < 2 ^ ng → m (33 + (b + 1)) (s : Int) = nx s) (hn : ∀ s, 0 ≤ nx s ∧ nx s ≤ 100000) : Br_mostFrom z 26 48 (b : Int) (s : Int) m = some (brG (lbV Z S) (Z 0 14) b nx s ng) := by
  have n1 := h.nb
  have n2 := h.ng
  have p := p256 (ng := ng) (by omega)
  have K : ∀ (d n g : Nat), g + d = ng → d < n → Br_mostFrom_L16 m n z 26 48 (b : Int) (s : Int) (brG (lbV Z S) (Z 0 14) b nx s g) (g : Int) = some (brG (lbV Z S) (Z 0 14) b nx s ng) := by
    intro d
    induction d with
    | zero =>
      intro n g hg hn'
      obtain ⟨n, rfl⟩ : ∃ k, n = k + 1 := ⟨n - 1, by omega⟩
      have : g = ng := by omega
      subst this
      show Br_mostFrom_B16 _ _ _ _ _ _ _ _ _ = _
      unfold Br_mostFrom_B16
      rw [rZ0 hm.1, if_neg (by omega)]
    | succ d ih =>
      intro n g hg hn'
      obtain ⟨n, rfl⟩ : ∃ k, n = k + 1 := ⟨n - 1, by omega⟩
      have i1 := ih n (g + 1) (by omega) (by omega)
      have eq1 : brG (lbV Z S) (Z 0 14) b nx s (g + 1) = if canV (lbV Z S) (Z 0 14) b g s = true then max (brG (lbV Z S) (Z 0 14) b nx s g) (lbV Z S b g + nx (s ||| 2 ^ g)) else brG (lbV Z S) (Z 0 14) b nx s g := rfl
      rw [eq1, show ((g + 1 : Nat) : Int) = (g : Int) + 1 from by omega] at i1
      show Br_mostFrom_B16 _ _ _ _ _ _ _ _ _ = _
      unfold Br_mostFrom_B16
      rw [rZ0 hm.1, if_pos (by omega), canC h hm (by omega) (by omega) (by omega), Option.bind_some, wI_ok (x := (g : Int) + 1) (by omega) (by omega)]
      by_cases c : canV (lbV Z S) (Z 0 14) b g s = true
      · rw [if_pos c] at i1
        rw [if_pos c, if_neg n10, withC h hm hb hnb (by omega) hng hs c hx hn, Option.bind_some]
        exact i1
      · rw [if_neg c] at i1
        rw [if_neg c, if_pos p00]
        exact i1
  unfold Br_mostFrom
  rw [wI_ok (x := (b : Int) + 1) (by omega) (by omega), gi_ok (by omega) (by omega), rd_ok (by omega) (by omega), show 32 + 1 + ((b : Int) + 1).toNat = 33 + (b + 1) from by omega, hx s hs]
  exact K ng 1000000 0 (by omega) (by omega)
/-- the first guest that is best, or none -/
def bstV (lb : Nat → Nat → Int) (ush : Int) (ng nb b s : Nat) : Nat → Nat → Int
  | 0, _ => -1
  | n + 1, g => if g < ng then (if canV lb ush b g s = true ∧ lb b g + brV lb ush ng nb (nb - (b + 1)) (s ||| 2 ^ g) = brV lb ush ng nb (nb - b) s then (g : Int) else bstV lb ush ng nb b s n (g + 1)) else -1
def sqV (lb : Nat → Nat → Int) (ush : Int) (ng nb : Nat) : Nat → Nat
  | 0 => 0
  | b + 1 => if bstV lb ush ng nb b (sqV lb ush ng nb b) 9 0 = -1 then sqV lb ush ng nb b else sqV lb ush ng nb b ||| 2 ^ (bstV lb ush ng nb b (sqV lb ush ng nb b) 9 0).toNat
theorem bst_b {lb : Nat → Nat → Int} {ush : Int} {ng nb b s : Nat} : ∀ n g, bstV lb ush ng nb b s n g = -1 ∨ ((g : Int) ≤ bstV lb ush ng nb b s n g ∧ bstV lb ush ng nb b s n g < (ng : Int))
  | 0, g => Or.inl rfl
  | n + 1, g => by
    have ih := bst_b (lb := lb) (ush := ush) (ng := ng) (nb := nb) (b := b) (s := s) n (g + 1)
    unfold bstV
    by_cases c : g < ng
    · rw [if_pos c]
      split
      · right; omega
      · omega
    · rw [if_neg c]; exact Or.inl rfl
theorem sq_b {lb : Nat → Nat → Int} {ush : Int} {ng nb : Nat} : ∀ b, sqV lb ush ng nb b < 2 ^ ng
  | 0 => Nat.pow_pos (by decide)
  | b + 1 => by
    have ih := sq_b (lb := lb) (ush := ush) (ng := ng) (nb := nb) b
    unfold sqV
    split
    · exact ih
    · next q =>
      rcases bst_b (lb := lb) (ush := ush) (ng := ng) (nb := nb) (b := b) (s := sqV lb ush ng nb b) 9 0 with e | e
      · exact absurd e q
      · exact or_lt ih (by omega)
