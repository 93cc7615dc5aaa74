/-! pure tools -/
theorem wI_ok {x : Int} (h1 : -2147483648 ≤ x) (h2 : x < 2147483648) : wI x = x := wI_id ⟨h1, h2⟩
theorem wL_ok {x : Int} (h1 : -9223372036854775808 ≤ x) (h2 : x < 9223372036854775808) : wL x = x := wL_id ⟨h1, h2⟩
theorem rd_ok {α : Type} {a n : Nat} {i : Int} {m : zM} {k : Int → Option α} (h1 : 0 ≤ i) (h2 : i < (n : Int)) : rd a n i m k = k (m a i) := if_pos ⟨h1, h2⟩
theorem wr_ok {α : Type} {a n : Nat} {i v : Int} {m : zM} {k : zM → Option α} (h1 : 0 ≤ i) (h2 : i < (n : Int)) : wr a n i v m k = k (upm m a i v) := if_pos ⟨h1, h2⟩
theorem gi_ok {α : Type} {n : Nat} {i : Int} {k : Option α} (h1 : 0 ≤ i) (h2 : i < (n : Int)) : gi n i k = k := if_pos ⟨h1, h2⟩
theorem nz_ok {α : Type} {y : Int} {k : Option α} (h : y ≠ 0) : nz y k = k := if_neg h
def stA (m : zM) (a : Nat) (f : Int → Int) : zM := fun b => if b = a then f else m b
theorem stA_eq {m : zM} {a : Nat} {f : Int → Int} : stA m a f a = f := if_pos rfl
theorem stA_ne {m : zM} {a b : Nat} {f : Int → Int} (h : b ≠ a) : stA m a f b = m b := if_neg h
theorem upm_stA {m : zM} {a : Nat} {i v : Int} : upm m a i v = stA m a (sets (m a) i v) := rfl
theorem stA_stA {m : zM} {a : Nat} {f g : Int → Int} : stA (stA m a f) a g = stA m a g := by
  funext b
  unfold stA
  by_cases h : b = a
  · rw [if_pos h, if_pos h]
  · rw [if_neg h, if_neg h, if_neg h]
theorem stA_comm {m : zM} {a b : Nat} {f g : Int → Int} (h : a ≠ b) : stA (stA m a f) b g = stA (stA m b g) a f := by
  funext c
  unfold stA
  by_cases h1 : c = b
  · rw [if_pos h1, if_neg (by omega), if_pos h1]
  · rw [if_neg h1]
    by_cases h2 : c = a
    · rw [if_pos h2, if_pos h2]
    · rw [if_neg h2, if_neg h2, if_neg h1]
theorem stA_self {m : zM} {a : Nat} : stA m a (m a) = m := by
  funext b
  unfold stA
  by_cases h : b = a
  · rw [if_pos h, h]
  · rw [if_neg h]
/-- the first n places hold v -/
def rng (f : Int → Int) (n v : Int) : Int → Int := fun j => if 0 ≤ j ∧ j < n then v else f j
theorem rng_0 {f : Int → Int} {v : Int} : rng f 0 v = f := by
  funext j
  exact if_neg (by omega)
theorem rng_s {f : Int → Int} {n v : Int} (h : 0 ≤ n) : sets (rng f n v) n v = rng f (n + 1) v := by
  funext j
  unfold sets rng
  by_cases e : j = n
  · rw [if_pos e, if_pos (by omega)]
  · rw [if_neg e]
    by_cases e2 : 0 ≤ j ∧ j < n
    · rw [if_pos e2, if_pos (by omega)]
    · rw [if_neg e2, if_neg (by omega)]
def fgm (o : Nat) (m : zM) : zM := stA (stA (stA m (o + 2) (rng (m (o + 2)) 8 (-1))) (o + 3) (rng (m (o + 3)) 8 0)) (o + 6) (rng (m (o + 6)) 48 0)
theorem St_forgetDay_L30_ok (o : Nat) (m : zM) : ∀ (d n : Nat) (i : Int), i = 48 - (d : Int) → 0 ≤ i → d < n → St_forgetDay_L30 n o i (stA m (o + 6) (rng (m (o + 6)) i 0)) = some (stA m (o + 6) (rng (m (o + 6)) 48 0)) := by
  intro d
  induction d with
  | zero =>
    intro n i h h0 hn
    obtain ⟨n, rfl⟩ : ∃ k, n = k + 1 := ⟨n - 1, by omega⟩
    have hi : i = 48 := by omega
    subst hi
    show St_forgetDay_B30 _ _ _ _ = _
    unfold St_forgetDay_B30
    rw [if_neg (by omega)]
  | succ d ih =>
    intro n i h h0 hn
    obtain ⟨n, rfl⟩ : ∃ k, n = k + 1 := ⟨n - 1, by omega⟩
    show St_forgetDay_B30 _ _ _ _ = _
    unfold St_forgetDay_B30
    rw [if_pos (by omega), wr_ok (by omega) (by omega), wI_ok (by omega) (by omega), upm_stA, stA_stA, stA_eq, rng_s (by omega)]
    exact ih n (i + 1) (by omega) (by omega) (by omega)
theorem St_forgetDay_L2_ok (k : Nat → zM → Option zM) (o : Nat) (m : zM) : ∀ (d n : Nat) (i : Int), i = 8 - (d : Int) → 0 ≤ i → d < n → St_forgetDay_L2 k n o i (stA (stA m (o + 2) (rng (m (o + 2)) i (-1))) (o + 3) (rng (m (o + 3)) i 0)) = k o (stA (stA m (o + 2) (rng (m (o + 2)) 8 (-1))) (o + 3) (rng (m (o + 3)) 8 0)) := by
  intro d
  induction d with
  | zero =>
    intro n i h h0 hn
    obtain ⟨n, rfl⟩ : ∃ k, n = k + 1 := ⟨n - 1, by omega⟩
    have hi : i = 8 := by omega
    subst hi
    show St_forgetDay_B2 _ _ _ _ _ = _
    unfold St_forgetDay_B2
    rw [if_neg (by omega)]
  | succ d ih =>
    intro n i h h0 hn
    obtain ⟨n, rfl⟩ : ∃ k, n = k + 1 := ⟨n - 1, by omega⟩
    show St_forgetDay_B2 _ _ _ _ _ = _
    unfold St_forgetDay_B2
    rw [if_pos (by omega), wr_ok (by omega) (by omega), wr_ok (by omega) (by omega), wI_ok (by omega) (by omega), upm_stA, upm_stA, stA_ne (a := o + 3) (b := o + 2) (by omega), stA_eq, rng_s (by omega), stA_comm (a := o + 3) (b := o + 2) (by omega), stA_stA, stA_eq, stA_stA, rng_s (by omega)]
    exact ih n (i + 1) (by omega) (by omega) (by omega)
theorem St_forgetDay_ok (o : Nat) (m : zM) : St_forgetDay o m = some (fgm o m) := by
  have h2 := St_forgetDay_L2_ok (fun o m2 => St_forgetDay_L30 1000000 o 0 m2) o m 8 1000000 0 rfl (by omega) (by omega)
  rw [rng_0, rng_0, stA_self] at h2
  have e : stA m (o + 3) (m (o + 3)) = m := stA_self
  rw [e] at h2
  unfold St_forgetDay
  rw [h2]
  have h3 := St_forgetDay_L30_ok o (stA (stA m (o + 2) (rng (m (o + 2)) 8 (-1))) (o + 3) (rng (m (o + 3)) 8 0)) 48 1000000 0 rfl (by omega) (by omega)
  rw [rng_0, stA_self, stA_ne (by omega), stA_ne (by omega)] at h3
  exact h3
/-- a loop whose state is known at every turn -/
theorem loopZ {σ ρ : Type} (L : Nat → Int → σ → ρ) (S : Int → σ) (lo N : Int) (r : ρ) (hend : ∀ n, L (n + 1) N (S N) = r) (hstep : ∀ n i, lo ≤ i → i < N → L (n + 1) i (S i) = L n (i + 1) (S (i + 1))) : ∀ (n : Nat) (i : Int), lo ≤ i → i ≤ N → N - i < (n : Int) → L n i (S i) = r := by
  intro n
  induction n with
  | zero => intro i h1 h2 h3; omega
  | succ n ih =>
    intro i h1 h2 h3
    by_cases e : i = N
    · subst e; exact hend n
    · rw [hstep n i h1 (by omega)]
      exact ih (i + 1) (by omega) (by omega) (by omega)
