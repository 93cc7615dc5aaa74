/-! rounds: who points at whom, who is in a ring -/
def itP (p : Nat → Nat) : Nat → Nat → Nat
  | 0, b => b
  | n + 1, b => itP p n (p b)
theorem it_add {p : Nat → Nat} : ∀ (i j b : Nat), itP p (i + j) b = itP p j (itP p i b)
  | 0, j, b => by rw [Nat.zero_add]; rfl
  | i + 1, j, b => by
    rw [show i + 1 + j = (i + j) + 1 from by omega]
    exact it_add i j (p b)
def rigV (p : Nat → Nat) (b : Nat) : Nat → Nat → Bool
  | 0, _ => false
  | n + 1, y => if y = b then true else rigV p b n (p y)
theorem fol_it {p : Nat → Nat} {b : Nat} : ∀ n y, rigV p b n y = true ↔ ∃ k, k < n ∧ itP p k y = b
  | 0, y => ⟨fun h => (by cases h), fun ⟨k, h, _⟩ => by omega⟩
  | n + 1, y => by
    have ih := fol_it (p := p) (b := b) n (p y)
    unfold rigV
    by_cases c : y = b
    · rw [if_pos c]
      exact ⟨fun _ => ⟨0, by omega, c⟩, fun _ => rfl⟩
    · rw [if_neg c, ih]
      refine ⟨fun ⟨k, h1, h2⟩ => ⟨k + 1, by omega, h2⟩, fun ⟨k, h1, h2⟩ => ?_⟩
      match k, h1, h2 with
      | 0, _, h2 => exact absurd h2 c
      | k + 1, h1, h2 => exact ⟨k, by omega, h2⟩
theorem pigeon : ∀ (n : Nat) (f : Nat → Nat), (∀ i, i ≤ n → f i < n) → ∃ i j, i < j ∧ j ≤ n ∧ f i = f j
  | 0, f, h => absurd (h 0 (Nat.le_refl _)) (by omega)
  | n + 1, f, h => by
    by_cases c : ∃ i, i ≤ n ∧ f i = f (n + 1)
    · obtain ⟨i, h1, h2⟩ := c
      exact ⟨i, n + 1, by omega, Nat.le_refl _, h2⟩
    · have c' : ∀ i, i ≤ n → f i ≠ f (n + 1) := fun i hi e => c ⟨i, hi, e⟩
      have top := h (n + 1) (Nat.le_refl _)
      have ih := pigeon n (fun i => if f i = n then f (n + 1) else f i) (fun i hi => by
        show (if f i = n then f (n + 1) else f i) < n
        have a1 := c' i hi
        have a2 := h i (by omega)
        split <;> omega)
      obtain ⟨i, j, h1, h2, h3⟩ := ih
      refine ⟨i, j, h1, by omega, ?_⟩
      have a1 := c' i (by omega)
      have a2 := c' j h2
      have h4 : (if f i = n then f (n + 1) else f i) = (if f j = n then f (n + 1) else f j) := h3
      split at h4 <;> split at h4 <;> omega
theorem fol7 {p : Nat → Nat} {b : Nat} (hO : ∀ i, itP p i b < 6) : rigV p b 7 (p b) = rigV p b 6 (p b) := by
  have key : rigV p b 7 (p b) = true ↔ rigV p b 6 (p b) = true := by
    rw [fol_it, fol_it]
    refine ⟨fun ⟨k, h1, h2⟩ => ?_, fun ⟨k, h1, h2⟩ => ⟨k, by omega, h2⟩⟩
    by_cases c : k < 6
    · exact ⟨k, c, h2⟩
    · have e7 : itP p 7 b = b := by
        have : k = 6 := by omega
        subst this
        exact h2
      have pg := pigeon 6 (fun i => itP p i b) (fun i _ => hO i)
      obtain ⟨i, j, q1, q2, q3⟩ := pg
      have q4 : itP p i b = itP p j b := q3
      have e : itP p (j - i) b = b := by
        have a1 := it_add (p := p) 7 (j - i) b
        have a2 := it_add (p := p) j (7 - i) b
        have a3 := it_add (p := p) i (7 - i) b
        rw [show i + (7 - i) = 7 from by omega] at a3
        rw [show 7 + (j - i) = j + (7 - i) from by omega, e7, a2, ← q4, ← a3, e7] at a1
        exact a1.symm
      refine ⟨j - i - 1, by omega, ?_⟩
      rw [show j - i = (j - i - 1) + 1 from by omega] at e
      exact e
  cases h : rigV p b 7 (p b) <;> cases h' : rigV p b 6 (p b)
  · rfl
  · rw [key.mpr h'] at h; cases h
  · rw [key.mp h] at h'; cases h'
  · rfl
theorem ring_ex {p : Nat → Nat} {b : Nat} (hO : ∀ i, itP p i b < 6) : ∃ i, rigV p (itP p i b) 6 (p (itP p i b)) = true := by
  have pg := pigeon 6 (fun i => itP p i b) (fun i _ => hO i)
  obtain ⟨i, j, q1, q2, q3⟩ := pg
  have q4 : itP p i b = itP p j b := q3
  refine ⟨i, (fol_it _ _).mpr ⟨j - i - 1, by omega, ?_⟩⟩
  have a := it_add (p := p) i (j - i) b
  rw [show i + (j - i) = j from by omega, ← q4, show j - i = (j - i - 1) + 1 from by omega] at a
  exact a.symm
def ptV (lk : Nat → Nat → Int) (L b : Nat) : Nat → Nat
  | 0 => b
  | n + 1 => if L.testBit n = true ∧ lk b (ptV lk L b n) < lk b n then n else ptV lk L b n
theorem pt_in {lk : Nat → Nat → Int} {L b : Nat} (hb : L.testBit b = true) : ∀ n, L.testBit (ptV lk L b n) = true
  | 0 => hb
  | n + 1 => by
    have ih := pt_in (lk := lk) hb n
    unfold ptV
    split
    · next h => exact h.1
    · exact ih
def otV (L : Nat) (p : Nat → Nat) : Nat → Nat
  | 0 => 0
  | n + 1 => if L.testBit n = true ∧ rigV p n 6 (p n) = true then otV L p n ||| 2 ^ n else otV L p n
theorem ot_lt {L : Nat} {p : Nat → Nat} : ∀ n, otV L p n < 2 ^ n
  | 0 => by show 0 < 1; omega
  | n + 1 => by
    have ih := ot_lt (L := L) (p := p) n
    have : 2 ^ n < 2 ^ (n + 1) := Nat.pow_lt_pow_right (by decide) (by omega)
    unfold otV
    split
    · exact Nat.or_lt_two_pow (by omega) this
    · omega
theorem ot_bit {L : Nat} {p : Nat → Nat} (b : Nat) : ∀ n, (otV L p n).testBit b = true ↔ b < n ∧ L.testBit b = true ∧ rigV p b 6 (p b) = true
  | 0 => by
    have e : (otV L p 0).testBit b = false := by
      show (0 : Nat).testBit b = false
      exact Nat.zero_testBit b
    rw [e]
    exact ⟨fun h => absurd h (by decide), fun h => by omega⟩
  | n + 1 => by
    have ih := ot_bit (L := L) (p := p) b n
    unfold otV
    by_cases c : L.testBit n = true ∧ rigV p n 6 (p n) = true
    · rw [if_pos c, Nat.testBit_or, Bool.or_eq_true, ih, Nat.testBit_two_pow, decide_eq_true_eq]
      constructor
      · rintro (⟨h1, h2⟩ | h)
        · exact ⟨by omega, h2⟩
        · subst h; exact ⟨by omega, c⟩
      · rintro ⟨h1, h2⟩
        by_cases e : b = n
        · exact Or.inr e.symm
        · exact Or.inl ⟨by omega, h2⟩
    · rw [if_neg c, ih]
      constructor
      · rintro ⟨h1, h2⟩
        exact ⟨by omega, h2⟩
      · rintro ⟨h1, h2⟩
        refine ⟨?_, h2⟩
        by_cases e : b = n
        · subst e; exact absurd h2 c
        · omega
theorem nx_and : ∀ L : Nat, L < 64 → ∀ o : Nat, o < 64 → anI (L : Int) (xoI (o : Int) (-1)) = ((L &&& (63 ^^^ o) : Nat) : Int) := by decide +kernel
theorem nx_pc : ∀ L : Nat, L < 64 → ∀ o : Nat, o < 64 → L &&& o ≠ 0 → pcN (L &&& (63 ^^^ o)) < pcN L := by decide +kernel
theorem nx_lt {L o : Nat} (h : L < 64) : L &&& (63 ^^^ o) < 64 := Nat.lt_of_le_of_lt Nat.and_le_left h
theorem nx_bit {L o b : Nat} (h : (L &&& (63 ^^^ o)).testBit b = true) : L.testBit b = true := by
  rw [Nat.testBit_and, Bool.and_eq_true] at h
  exact h.1
theorem pc_0 : ∀ L, L < 64 → pcN L = 0 → L = 0 := by decide +kernel
theorem pc_6 : ∀ L, L < 64 → pcN L ≤ 6 := by decide +kernel
theorem bit_ex : ∀ L, L < 64 → L ≠ 0 → ∃ b, b < 6 ∧ L.testBit b = true := by decide +kernel
def pV (lk : Nat → Nat → Int) (nb L b : Nat) : Nat := ptV lk L b nb
theorem it_in {lk : Nat → Nat → Int} {nb L : Nat} : ∀ (i b : Nat), L.testBit b = true → L.testBit (itP (pV lk nb L) i b) = true
  | 0, b, h => h
  | i + 1, b, h => it_in i (pV lk nb L b) (pt_in h nb)
def nxV (lk : Nat → Nat → Int) (nb L : Nat) : Nat := L &&& (63 ^^^ otV L (pV lk nb L) nb)
theorem nxV_pc {lk : Nat → Nat → Int} {nb L : Nat} (hn : nb ≤ 6) (hL : ∀ b, L.testBit b = true → b < nb) (h6 : L < 64) (h0 : L ≠ 0) : pcN (nxV lk nb L) < pcN L := by
  have ot := ot_lt (L := L) (p := pV lk nb L) nb
  have p64 : 2 ^ nb ≤ 64 := Nat.pow_le_pow_right (show 0 < 2 by decide) hn
  refine nx_pc L h6 _ (by omega) (fun e => ?_)
  obtain ⟨b, _, hb⟩ := bit_ex L h6 h0
  have rx := ring_ex (p := pV lk nb L) (b := b) (fun i => by have := hL _ (it_in (lk := lk) (nb := nb) i b hb); omega)
  obtain ⟨i, hi⟩ := rx
  have hx := it_in (lk := lk) (nb := nb) i b hb
  have ob := (ot_bit (L := L) (p := pV lk nb L) (itP (pV lk nb L) i b) nb).mpr ⟨hL _ hx, hx, hi⟩
  have : (L &&& otV L (pV lk nb L) nb).testBit (itP (pV lk nb L) i b) = true := by rw [Nat.testBit_and, hx, ob]; rfl
  rw [e, Nat.zero_testBit] at this
  cases this
/-- what each gets, and when -/
def rnV (lk : Nat → Nat → Int) (H : Nat → Int) (nb : Nat) : Nat → Nat → Int → (Nat → Int) → (Nat → Int) → (Nat → Int) × (Nat → Int)
  | 0, _, _, G, V => (G, V)
  | n + 1, L, r, G, V => if L = 0 then (G, V) else rnV lk H nb n (nxV lk nb L) (r + 1) (fun b => if L.testBit b = true ∧ rigV (pV lk nb L) b 6 (pV lk nb L b) = true then H (pV lk nb L b) else G b) (fun b => if L.testBit b = true ∧ rigV (pV lk nb L) b 6 (pV lk nb L b) = true then r else V b)
def ltV (H : Nat → Int) : Nat → Nat
  | 0 => 0
  | n + 1 => if H n = -1 then ltV H n else ltV H n ||| 2 ^ n
theorem lt_lt {H : Nat → Int} : ∀ n, ltV H n < 2 ^ n
  | 0 => by show 0 < 1; omega
  | n + 1 => by
    have ih := lt_lt (H := H) n
    have : 2 ^ n < 2 ^ (n + 1) := Nat.pow_lt_pow_right (by decide) (by omega)
    unfold ltV
    split
    · omega
    · exact Nat.or_lt_two_pow (by omega) this
theorem lt_bit {H : Nat → Int} (b : Nat) : ∀ n, (ltV H n).testBit b = true → b < n ∧ H b ≠ -1
  | 0, h => by
    have : (ltV H 0).testBit b = (0 : Nat).testBit b := rfl
    rw [this, Nat.zero_testBit] at h
    cases h
  | n + 1, h => by
    have ih := lt_bit (H := H) b n
    unfold ltV at h
    by_cases c : H n = -1
    · rw [if_pos c] at h
      have := ih h
      exact ⟨by omega, this.2⟩
    · rw [if_neg c, Nat.testBit_or, Bool.or_eq_true, Nat.testBit_two_pow, decide_eq_true_eq] at h
      rcases h with h | h
      · have := ih h
        exact ⟨by omega, this.2⟩
      · subst h
        exact ⟨by omega, c⟩
