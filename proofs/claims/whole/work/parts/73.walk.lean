/-! walk: two ways to share -/
def stV (pl : Int → Int) (s : Nat) : Nat → Int
  | 0 => 0
  | b + 1 => if s.testBit b then wI (stV pl s b + wI (2 * pl (b : Int))) else stV pl s b
def mnW (S f : Nat → Int) (s : Nat) (base : Int) : Nat → Int
  | 0 => base
  | q + 1 => if (q + 1) &&& s = q + 1 then min (mnW S f s base q) (max (S (q + 1)) (f (s - (q + 1)))) else mnW S f s base q
def wkV (S : Nat → Int) : Nat → Nat → Int
  | 0, s => S s
  | n + 1, s => mnW S (wkV S n) s (wkV S n s) s
/-- r is the least of a base and of what some numbers give -/
def isMn (r base : Int) (P : Nat → Prop) (c : Nat → Int) : Prop := r ≤ base ∧ (∀ q, P q → r ≤ c q) ∧ (r = base ∨ ∃ q, P q ∧ r = c q)
theorem isMn.uniq {r r' base : Int} {P : Nat → Prop} {c : Nat → Int} (h : isMn r base P c) (h' : isMn r' base P c) : r = r' := by
  obtain ⟨a1, a2, a3⟩ := h
  obtain ⟨b1, b2, b3⟩ := h'
  have l1 : r ≤ r' := by
    rcases b3 with e | ⟨q, hq, e⟩
    · rw [e]; exact a1
    · rw [e]; exact a2 q hq
  have l2 : r' ≤ r := by
    rcases a3 with e | ⟨q, hq, e⟩
    · rw [e]; exact b1
    · rw [e]; exact b2 q hq
  omega
theorem mnW_mn {S f : Nat → Int} {s : Nat} {base : Int} : ∀ n, isMn (mnW S f s base n) base (fun q => 1 ≤ q ∧ q ≤ n ∧ q &&& s = q) (fun q => max (S q) (f (s - q)))
  | 0 => ⟨Int.le_refl _, fun q h => absurd h.1 (by omega), Or.inl rfl⟩
  | n + 1 => by
    obtain ⟨a1, a2, a3⟩ := mnW_mn (S := S) (f := f) (s := s) (base := base) n
    unfold mnW
    by_cases c : (n + 1) &&& s = n + 1
    · rw [if_pos c]
      refine ⟨by omega, fun q hq => ?_, ?_⟩
      · by_cases e : q = n + 1
        · subst e; exact Int.min_le_right _ _
        · exact Int.le_trans (Int.min_le_left _ _) (a2 q ⟨hq.1, by omega, hq.2.2⟩)
      · by_cases e : mnW S f s base n ≤ max (S (n + 1)) (f (s - (n + 1)))
        · rw [Int.min_eq_left e]
          rcases a3 with w | ⟨q, hq, w⟩
          · exact Or.inl w
          · exact Or.inr ⟨q, ⟨hq.1, by omega, hq.2.2⟩, w⟩
        · rw [Int.min_eq_right (by omega)]
          exact Or.inr ⟨n + 1, ⟨by omega, Nat.le_refl _, c⟩, rfl⟩
    · rw [if_neg c]
      refine ⟨a1, fun q hq => ?_, ?_⟩
      · by_cases e : q = n + 1
        · subst e; exact absurd hq.2.2 c
        · exact a2 q ⟨hq.1, by omega, hq.2.2⟩
      · rcases a3 with w | ⟨q, hq, w⟩
        · exact Or.inl w
        · exact Or.inr ⟨q, ⟨hq.1, by omega, hq.2.2⟩, w⟩
theorem and_cmp : ∀ a : Nat, a < 64 → ∀ b : Nat, b < 64 → anI (a : Int) (xoI (b : Int) (-1)) = ((a - (a &&& b) : Nat) : Int) := by decide +kernel
theorem sub_n3 : ∀ s : Nat, s < 64 → ∀ p : Nat, p < 64 → ∀ q : Nat, q < p → (q &&& s = q → p &&& s = p → q ≤ (p - 1) &&& s) := by decide +kernel
theorem sub_nx (s : Nat) (hs : s < 64) (p : Nat) (hp : p < 64) (h1 : p &&& s = p) (h2 : 0 < p) : (p - 1) &&& s < p ∧ ((p - 1) &&& s) &&& s = (p - 1) &&& s ∧ ∀ q : Nat, q < p → q &&& s = q → q ≤ (p - 1) &&& s := by
  have : (p - 1) &&& s ≤ p - 1 := Nat.and_le_left
  exact ⟨by omega, by rw [Nat.and_assoc, Nat.and_self], fun q h3 h4 => sub_n3 s hs p hp q h3 h4 h1⟩
theorem and_le {a b : Nat} : a &&& b ≤ a := Nat.and_le_left
/-- only smaller numbers count -/
theorem mnW_congr {S S' f f' : Nat → Int} {s : Nat} {base base' : Int} (hb : base = base') : ∀ n, n ≤ s → (∀ q, q ≤ s → S q = S' q ∧ f q = f' q) → mnW S f s base n = mnW S' f' s base' n
  | 0, _, _ => hb
  | n + 1, hn, h => by
    have ih := mnW_congr (S := S) (S' := S') (f := f) (f' := f') hb n (by omega) h
    unfold mnW
    rw [ih, (h (n + 1) hn).1, (h (s - (n + 1)) (by omega)).2]
theorem wkV_congr {S S' : Nat → Int} {M : Nat} (h : ∀ q, q < M → S q = S' q) : ∀ n s, s < M → wkV S n s = wkV S' n s
  | 0, s, hs => h s hs
  | n + 1, s, hs => by
    have ih := wkV_congr h n
    unfold wkV
    exact mnW_congr (ih s hs) s (Nat.le_refl _) (fun q hq => ⟨h q (by omega), ih q (by omega)⟩)
/-! the class -/
theorem stepsC {m : zM} {a : Nat} {pl : Int → Int} {s : Nat} (hs : s < 64) (hp : ∀ j, 0 ≤ j → j < 6 → m a j = pl j) : ∀ (d n b : Nat), b + d = 6 → d < n → Wa_stepsTo_L4 m n a 6 (s : Int) (stV pl s b) (b : Int) = some (stV pl s 6) := by
  intro d
  induction d with
  | zero =>
    intro n b hb hn
    obtain ⟨n, rfl⟩ : ∃ q, n = q + 1 := ⟨n - 1, by omega⟩
    have : b = 6 := by omega
    subst this
    show Wa_stepsTo_B4 _ _ _ _ _ _ _ = _
    unfold Wa_stepsTo_B4
    rw [if_neg (by decide)]
  | succ d ih =>
    intro n b hb hn
    obtain ⟨n, rfl⟩ : ∃ q, n = q + 1 := ⟨n - 1, by omega⟩
    have i1 := ih n (b + 1) (by omega) (by omega)
    rw [show ((b + 1 : Nat) : Int) = (b : Int) + 1 from by omega] at i1
    unfold stV at i1
    show Wa_stepsTo_B4 _ _ _ _ _ _ _ = _
    unfold Wa_stepsTo_B4
    rw [if_pos (by omega), bit_1 (by omega) (by omega), wI_ok (x := (b : Int) + 1) (by omega) (by omega), rd_ok (by omega) (by omega), hp _ (by omega) (by omega), lt_ok]
    by_cases c : s.testBit b = true
    · rw [if_pos c, if_neg n10]
      rw [if_pos c] at i1
      exact i1
    · rw [if_neg c, if_pos p00]
      rw [if_neg c] at i1
      exact i1
theorem sharedC {m : zM} {S f : Nat → Int} {s : Nat} (hs : s < 64) (h50 : ∀ q : Nat, q < 64 → m 50 q = S q) (h51 : ∀ q : Nat, q ≤ s → m 51 q = f q) : Wa_sharedByOneMore (s : Int) m = some (mnW S f s (f s) s) := by
  have K : ∀ (d n q : Nat), q + d = s → d < n → Wa_sharedByOneMore_L9 m n (s : Int) (mnW S f s (f s) q) ((q : Int) + 1) = some (mnW S f s (f s) s) := by
    intro d
    induction d with
    | zero =>
      intro n q hq hn
      obtain ⟨n, rfl⟩ : ∃ k, n = k + 1 := ⟨n - 1, by omega⟩
      have : q = s := by omega
      subst this
      show Wa_sharedByOneMore_B9 _ _ _ _ _ = _
      unfold Wa_sharedByOneMore_B9
      rw [if_pos (by omega)]
    | succ d ih =>
      intro n q hq hn
      obtain ⟨n, rfl⟩ : ∃ k, n = k + 1 := ⟨n - 1, by omega⟩
      have i1 := ih n (q + 1) (by omega) (by omega)
      have ac := and_cmp (q + 1) (by omega) s hs
      have ac2 := and_cmp s hs (q + 1) (by omega)
      rw [show ((q + 1 : Nat) : Int) = (q : Int) + 1 from by omega] at i1 ac ac2
      have al := and_le (a := q + 1) (b := s)
      have eq1 : mnW S f s (f s) (q + 1) = if (q + 1) &&& s = q + 1 then min (mnW S f s (f s) q) (max (S (q + 1)) (f (s - (q + 1)))) else mnW S f s (f s) q := rfl
      rw [eq1] at i1
      show Wa_sharedByOneMore_B9 _ _ _ _ _ = _
      unfold Wa_sharedByOneMore_B9
      rw [if_neg (by omega), ac, wI_ok (by omega) (by omega)]
      by_cases c : (q + 1) &&& s = q + 1
      · rw [if_pos c] at i1
        have e2 : s &&& (q + 1) = q + 1 := by rw [Nat.and_comm]; exact c
        rw [if_pos (by omega), rd_ok (by omega) (by omega), ac2, e2, rd_ok (by omega) (by omega), lt_ok, h51 (s - (q + 1)) (by omega), show (q : Int) + 1 = ((q + 1 : Nat) : Int) from by omega, h50 (q + 1) (by omega)]
        rw [show (q : Int) + 1 = ((q + 1 : Nat) : Int) from by omega] at i1
        exact i1
      · rw [if_neg c] at i1
        rw [if_neg (by omega)]
        exact i1
  unfold Wa_sharedByOneMore
  rw [rd_ok (by omega) (by omega), h51 s (Nat.le_refl _)]
  exact K s 1000000 0 (by omega) (by omega)
theorem wp_walkC {m : zM} {a : Nat} {pl : Int → Int} {x u : Int} (ha : a ≠ 50 ∧ a ≠ 51) (x0 : 0 ≤ x) (x1 : x < 64) (u0 : 1 ≤ u) (u1 : u ≤ 6) (hp : ∀ j, 0 ≤ j → j < 6 → m a j = pl j) : wp (Wa_least a 6 x u m) (fun r => r.1 = wkV (fun s => stV pl s 6) (u - 1).toNat x.toNat ∧ eqO [50, 51] m r.2) := by
  unfold Wa_least
  rw [if_neg (by omega), if_pos x1]
  refine wp_for (fun n i (s : zM) => Wa_least_L15 (fun x2_3 x3_3 m4 => Wa_least_L58 1000000 x2_3 x3_3 2 m4) n a 6 x u i s) (fun i s => eqO [50, 51] m s ∧ ∀ q : Nat, (q : Int) < i → s 50 q = stV pl q 6 ∧ s 51 q = stV pl q 6) _ 0 64 ?_ ?_ 1000000 0 m (by omega) (by omega) (by omega) ⟨eqO.refl, fun q hq => by omega⟩
  · intro n s ⟨i1, i2⟩
    show wp (Wa_least_B15 _ _ _ _ _ _ _ _) _
    unfold Wa_least_B15
    rw [if_neg (by decide)]
    show wp (Wa_least_L58 1000000 x u 2 s) _
    refine wp_for (fun n i (s : zM) => Wa_least_L58 n x u i s) (fun i s => eqO [50, 51] m s ∧ (∀ q : Nat, q < 64 → s 50 q = stV pl q 6 ∧ s 51 q = wkV (fun s => stV pl s 6) (i - 2).toNat q)) _ 2 (u + 1) ?_ ?_ 1000000 2 s (by omega) (by omega) (by omega) ⟨i1, fun q hq => ⟨(i2 q (by omega)).1, (i2 q (by omega)).2⟩⟩
    · intro n s ⟨j1, j2⟩
      show wp (Wa_least_B58 _ _ _ _ _) _
      unfold Wa_least_B58
      rw [if_pos (by omega), rd_ok x0 (by omega)]
      have := (j2 x.toNat (by omega)).2
      rw [show ((x.toNat : Nat) : Int) = x from by omega, show (u + 1 - 2).toNat = (u - 1).toNat from by omega] at this
      exact wp_some ⟨this, j1⟩
    · intro n i s q0 q1 ⟨j1, j2⟩ hr
      show wp (Wa_least_B58 _ _ _ _ _) _
      unfold Wa_least_B58
      rw [if_neg (by omega)]
      have en : (i + 1 - 2).toNat = (i - 2).toNat + 1 := by omega
      rw [← Int.sub_zero 63]
      refine wp_for (fun k j (s : zM) => Wa_least_L68 (fun x2_3 x3_3 x4_3 m4 => Wa_least_L58 n x2_3 x3_3 (wI (x4_3 + 1)) m4) k x u i (63 - j) s) (fun j s => eqO [50, 51] m s ∧ (∀ q : Nat, q < 64 → s 50 q = stV pl q 6 ∧ s 51 q = if (q : Int) ≤ 63 - j then wkV (fun s => stV pl s 6) (i - 2).toNat q else wkV (fun s => stV pl s 6) ((i - 2).toNat + 1) q)) _ 0 63 ?_ ?_ 1000000 0 s (by omega) (by omega) (by omega) ⟨j1, fun q hq => ⟨(j2 q hq).1, by rw [if_pos (by omega)]; exact (j2 q hq).2⟩⟩
      · intro k s ⟨k1, k2⟩
        show wp (Wa_least_B68 _ _ _ _ _ (63 - 63) _) _
        unfold Wa_least_B68
        rw [if_neg (by decide)]
        show wp (Wa_least_L58 n x u (wI (i + 1)) s) _
        rw [wI_ok (by omega) (by omega)]
        refine hr s ⟨k1, fun q hq => ⟨(k2 q hq).1, ?_⟩⟩
        rw [(k2 q hq).2, en]
        by_cases e : q = 0
        · subst e
          rw [if_pos (by decide)]
          rfl
        · rw [if_neg (by omega)]
      · intro k j s p0 p1 ⟨k1, k2⟩ hr2
        show wp (Wa_least_B68 _ _ _ _ _ (63 - j) _) _
        unfold Wa_least_B68
        have es : (((63 - j).toNat : Nat) : Int) = 63 - j := by omega
        have sh := sharedC (m := s) (S := fun q => stV pl q 6) (f := wkV (fun s => stV pl s 6) (i - 2).toNat) (s := (63 - j).toNat) (by omega) (fun q hq => (k2 q hq).1) (fun q hq => by rw [(k2 q (by omega)).2, if_pos (by omega)])
        rw [es] at sh
        rw [if_pos (by omega), sh, Option.bind_some, wr_ok (by omega) (by omega), wI_ok (by omega) (by omega), show 63 - j + -1 = 63 - (j + 1) from by omega]
        refine hr2 _ ⟨k1.put (by simp), fun q hq => ⟨by rw [ru1 (by decide)]; exact (k2 q hq).1, ?_⟩⟩
        by_cases e : q = (63 - j).toNat
        · subst e
          rw [es, ru3 rfl rfl, if_neg (by omega)]
          rfl
        · rw [ru2 (by omega), (k2 q hq).2]
          by_cases w : (q : Int) ≤ 63 - j
          · rw [if_pos w, if_pos (by omega)]
          · rw [if_neg w, if_neg (by omega)]
  · intro n i s q0 q1 ⟨i1, i2⟩ hr
    have ei : ((i.toNat : Nat) : Int) = i := by omega
    have st := stepsC (m := s) (a := a) (pl := pl) (s := i.toNat) (by omega) (fun j j0 j1 => by rw [i1 a (by simp; omega)]; exact hp j j0 j1) 6 1000000 0 (by omega) (by omega)
    rw [ei] at st
    show wp (Wa_least_B15 _ _ _ _ _ _ _ _) _
    unfold Wa_least_B15 Wa_stepsTo
    rw [if_pos q1]
    refine wp_be st ?_
    rw [wr_ok q0 (by omega), rd_ok q0 (by omega), wr_ok q0 (by omega), ru3 rfl rfl, wI_ok (by omega) (by omega)]
    refine hr _ ⟨(i1.put (by simp)).put (by simp), fun q hq => ?_⟩
    rw [ru1 (b := 50) (by decide)]
    by_cases e : q = i.toNat
    · subst e
      rw [ei, ru3 rfl rfl, ru3 rfl rfl]
      exact ⟨rfl, rfl⟩
    · rw [ru2 (by omega), ru2 (by omega), ru1 (by decide)]
      exact i2 q (by omega)
