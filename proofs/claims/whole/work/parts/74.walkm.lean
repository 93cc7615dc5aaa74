/-! the model's walk -/
/-- a call that touches scratch alone, in both -/
theorem Rel.quietM {mC mC' mM mM' : zM} {z : Nat} {l l2 : List Nat} (hz : z = 55 ∨ z = 72) (h1 : RS mC mM z) (g : GG (zv mC z) (sv mC 8) mM (mM 0 13) 0) (h3 : RU mC mM z) (k : eqO l mC mC') (hl : ∀ a ∈ l, (16 ≤ a ∧ a ≤ 39) ∨ a = 41 ∨ (43 ≤ a ∧ a ≤ 51) ∨ a = z + 13 ∨ a = z + 16) (f : eqO l2 mM mM') (hf : ∀ a ∈ l2, (37 ≤ a ∧ a ≤ 42) ∨ (45 ≤ a ∧ a ≤ 51)) : Rel mC' mM' := by
  refine Rel.quiet hz h1 g h3 (K1.ofO k (fun a w => by have := hl a w; omega) hz) (K2.ofO f (fun a w => by have := hf a w; omega)) ?_ ?_ ?_ ?_ ?_
  · rw [k 0 (fun w => by have := hl 0 w; omega)]; exact ⟨rfl, rfl⟩
  · exact sv_eq fun q hq => k _ (fun w => by have := hl _ w; omega)
  · exact fun a ha => k a (fun w => by have := hl a w; omega)
  · rw [f 0 (fun w => by have := hf 0 w; omega)]; exact ⟨rfl, rfl⟩
  · intro u u1 u0 a q1 q2 i i1 i2
    rw [f a (fun w => by have := hf a w; omega)]
def vkV (S : Nat → Int) : Nat → Nat → Int
  | 0, s => if s = 0 then 0 else 100000000
  | n + 1, s => mnW S (vkV S n) s (vkV S n s) s
theorem vk_1 {S : Nat → Int} (h0 : S 0 = 0) (hS : ∀ q, q < 64 → 0 ≤ S q ∧ S q ≤ 100000000) (s : Nat) (hs : s < 64) : vkV S 1 s = S s := by
  have mn := mnW_mn (S := S) (f := vkV S 0) (s := s) (base := vkV S 0 s) s
  refine mn.uniq ⟨?_, fun q hq => ?_, ?_⟩
  · unfold vkV
    by_cases e : s = 0
    · rw [if_pos e, e, h0]; exact Int.le_refl _
    · rw [if_neg e]; exact (hS s hs).2
  · show S s ≤ max (S q) (if s - q = 0 then 0 else 100000000)
    by_cases e : s - q = 0
    · have : q = s := by have := hq.2.1; omega
      subst this
      omega
    · rw [if_neg e]
      have := (hS s hs).2
      omega
  · by_cases e : s = 0
    · left
      subst e
      rw [h0]; rfl
    · right
      refine ⟨s, ⟨by omega, Nat.le_refl _, Nat.and_self s⟩, ?_⟩
      show S s = max (S s) (if s - s = 0 then 0 else 100000000)
      rw [if_pos (by omega)]
      have := (hS s hs).1
      omega
theorem vk_wk {S : Nat → Int} (h0 : S 0 = 0) (hS : ∀ q, q < 64 → 0 ≤ S q ∧ S q ≤ 100000000) : ∀ n s, s < 64 → vkV S (n + 1) s = wkV S n s
  | 0, s, hs => vk_1 h0 hS s hs
  | n + 1, s, hs => by
    have ih := vk_wk h0 hS n
    show mnW S (vkV S (n + 1)) s (vkV S (n + 1) s) s = mnW S (wkV S n) s (wkV S n s) s
    exact mnW_congr (ih s hs) s (Nat.le_refl _) (fun q hq => ⟨rfl, ih q (by omega)⟩)
theorem partsM {k248 : Int → Int → Int → Int → Int → zM → Option (Int × zM)} {m : zM} {S f : Nat → Int} {x1 x2 N : Int} {s : Nat} (hs : s < 64) (N0 : 1 ≤ N) (N1 : N ≤ 6) (h50 : ∀ q : Nat, q < 64 → m 50 (64 * (N - 1) + (q : Int)) = f q) (h51 : ∀ q : Nat, q < 64 → m 51 q = S q) : ∀ (p n : Nat) (best : Int), p ≤ s → p &&& s = p → p < n → isMn best (f s) (fun q => p < q ∧ q ≤ s ∧ q &&& s = q) (fun q => max (S q) (f (s - q))) → M_walk_L168 k248 n x1 x2 N (s : Int) best (p : Int) m = k248 x1 x2 N (s : Int) (mnW S f s (f s) s) m := by
  intro p
  induction p using Nat.strongRecOn with
  | ind p ih =>
    intro n best hp hps hn hb
    obtain ⟨n, rfl⟩ : ∃ q, n = q + 1 := ⟨n - 1, by omega⟩
    show M_walk_B168 _ _ _ _ _ _ _ _ _ = _
    unfold M_walk_B168
    by_cases c : p = 0
    · subst c
      rw [if_neg (by decide)]
      have e : best = mnW S f s (f s) s := hb.uniq (mnW_mn s)
      rw [e]
    · obtain ⟨x, y, w⟩ := sub_nx s hs p (by omega) hps (by omega)
      have ac := and_cmp s hs p (by omega)
      have e2 : s &&& p = p := by rw [Nat.and_comm]; exact hps
      have nx : anI (wI ((p : Int) - 1)) (s : Int) = (((p - 1) &&& s : Nat) : Int) := by
        rw [wI_ok (by omega) (by omega), show (p : Int) - 1 = ((p - 1 : Nat) : Int) from by omega, anI_nat (by omega) (by omega)]
      rw [if_pos (by omega), ac, e2, wI_ok (x := N - 1) (by omega) (by omega), wI_ok (x := 64 * (N - 1)) (by omega) (by omega), wI_ok (by omega) (by omega), rd_ok (by omega) (by omega), rd_ok (by omega) (by omega), rd_ok (by omega) (by omega), h50 (s - p) (by omega), h51 p (by omega)]
      unfold M_walk_b218
      rw [nx]
      simp only [lt_ok]
      have go : ∀ b', b' = min best (max (S p) (f (s - p))) → M_walk_L168 k248 n x1 x2 N (s : Int) b' (((p - 1) &&& s : Nat) : Int) m = k248 x1 x2 N (s : Int) (mnW S f s (f s) s) m := by
        intro b' hb'
        subst hb'
        obtain ⟨m1, m2, m3⟩ := hb
        refine ih _ x n _ (by omega) y (by omega) ⟨by omega, fun q hq => ?_, ?_⟩
        · by_cases e : q = p
          · subst e; exact Int.min_le_right _ _
          · by_cases e2 : p < q
            · exact Int.le_trans (Int.min_le_left _ _) (m2 q ⟨e2, hq.2⟩)
            · have := w q (by omega) hq.2.2
              omega
        · by_cases e : best ≤ max (S p) (f (s - p))
          · rw [Int.min_eq_left e]
            rcases m3 with t | ⟨q, hq, t⟩
            · exact Or.inl t
            · exact Or.inr ⟨q, ⟨by omega, hq.2⟩, t⟩
          · rw [Int.min_eq_right (by omega)]
            exact Or.inr ⟨p, ⟨x, hp, hps⟩, rfl⟩
      by_cases q : S p < f (s - p)
      · rw [if_pos q]
        by_cases r : f (s - p) < best
        · rw [if_pos r]
          exact go _ (by omega)
        · rw [if_neg r]
          exact go _ (by omega)
      · rw [if_neg q]
        by_cases r : S p < best
        · rw [if_pos r]
          exact go _ (by omega)
        · rw [if_neg r]
          exact go _ (by omega)
theorem st_b {pl : Int → Int} {s : Nat} (hp : ∀ j, 0 ≤ j → j < 6 → 0 ≤ pl j ∧ pl j ≤ 99) : ∀ n : Nat, n ≤ 6 → 0 ≤ stV pl s n ∧ stV pl s n ≤ 198 * n
  | 0, _ => ⟨Int.le_refl _, by show (0 : Int) ≤ _; omega⟩
  | n + 1, hn => by
    have ih := st_b (s := s) hp n (by omega)
    have := hp n (by omega) (by omega)
    unfold stV
    split
    · rw [wI_ok (x := 2 * pl n) (by omega) (by omega), wI_ok (by omega) (by omega)]
      omega
    · omega
theorem st_0 {pl : Int → Int} : ∀ n, stV pl 0 n = 0
  | 0 => rfl
  | n + 1 => by
    have := st_0 (pl := pl) n
    unfold stV
    rw [Nat.zero_testBit, if_neg (by decide)]
    exact this
theorem st_hi {pl pl' : Int → Int} {s nb : Nat} (hs : s < 2 ^ nb) (hp : ∀ j : Nat, j < nb → pl j = pl' j) : ∀ n, n ≤ nb → stV pl s n = stV pl' s n
  | 0, _ => rfl
  | n + 1, hn => by
    have ih := st_hi hs hp n (by omega)
    unfold stV
    rw [ih, hp n (by omega)]
theorem st_up {pl : Int → Int} {s nb : Nat} (hs : s < 2 ^ nb) : ∀ d, stV pl s (nb + d) = stV pl s nb
  | 0 => rfl
  | d + 1 => by
    have ih := st_up (pl := pl) hs d
    have : s.testBit (nb + d) = false := Nat.testBit_lt_two_pow (Nat.lt_of_lt_of_le hs (Nat.pow_le_pow_right (by decide) (by omega)))
    show (if s.testBit (nb + d) = true then _ else _) = _
    rw [this, if_neg (by decide)]
    exact ih
/-- places where there are beasts, and 0 behind -/
def plZ (Z : zM) : Int → Int := fun j => if 0 ≤ j ∧ j < Z 0 0 then Z 4 j else 0
theorem plZ_b {Z S mM : zM} {bk v : Int} (h : GG Z S mM bk v) : ∀ j, 0 ≤ j → j < 6 → 0 ≤ plZ Z j ∧ plZ Z j ≤ 99 := by
  intro j j0 j1
  unfold plZ
  by_cases c : 0 ≤ j ∧ j < Z 0 0
  · rw [if_pos c]
    exact (h.1.2.2.2.2.1 j c).2
  · rw [if_neg c]; omega
theorem stepsM {k108 : Int → Int → Int → zM → Option (Int × zM)} {Z S0 mM : zM} {bk x1 x2 : Int} {s : Nat} (h : GG Z S0 mM bk 0) (hs : s < 64) : ∀ (d n b : Nat) (m : zM), (b : Int) + d = Z 0 0 → d < n → eqO [50, 51] mM m → m 51 s = stV (plZ Z) s b → ∃ m', M_walk_L49 k108 n x1 x2 (s : Int) (b : Int) m = k108 x1 x2 (s : Int) m' ∧ eqO [51] m m' ∧ m' 51 s = stV (plZ Z) s (Z 0 0).toNat ∧ ∀ q, q ≠ (s : Int) → m' 51 q = m 51 q := by
  have n1 := h.nb
  have n3 := h.bk
  intro d
  induction d with
  | zero =>
    intro n b m hb hn he hv
    obtain ⟨n, rfl⟩ : ∃ q, n = q + 1 := ⟨n - 1, by omega⟩
    refine ⟨m, ?_, eqO.refl, by rw [hv]; congr 1; omega, fun q _ => rfl⟩
    show M_walk_B49 _ _ _ _ _ _ _ = _
    unfold M_walk_B49
    rw [he 0 (by simp), h.2.2.1, rd_ok (by omega) (by omega), he 2 (by simp), h.1.1.1, if_neg (by omega)]
  | succ d ih =>
    intro n b m hb hn he hv
    obtain ⟨n, rfl⟩ : ∃ q, n = q + 1 := ⟨n - 1, by omega⟩
    have sb := st_b (s := s) (plZ_b h) b (by omega)
    have pb := plZ_b h (b : Int) (by omega) (by omega)
    have e5 : m 5 (6 * bk + (b : Int)) = plZ Z b := by
      rw [he 5 (by simp), h.1.2.2.2.2.1.at (i := (b : Int)) ⟨by omega, by omega⟩ rfl]
      exact (if_pos ⟨by omega, by omega⟩).symm
    have step : M_walk_L49 k108 (n + 1) x1 x2 (s : Int) (b : Int) m = M_walk_L49 k108 n x1 x2 (s : Int) ((b + 1 : Nat) : Int) (upm m 51 s (stV (plZ Z) s (b + 1))) := by
      show M_walk_B49 _ _ _ _ _ _ _ = _
      unfold M_walk_B49
      rw [he 0 (by simp), h.2.2.1, rd_ok (by omega) (by omega), he 2 (by simp), h.1.1.1, if_pos (by omega), rd_ok (by omega) (by omega), M_has2_ok, Option.bind_some, bit_1 (by omega) (by omega), hv, wI_ok (x := (b : Int) + 1) (by omega) (by omega), show (b : Int) + 1 = ((b + 1 : Nat) : Int) from by omega]
      have es : stV (plZ Z) s (b + 1) = if s.testBit b then wI (stV (plZ Z) s b + wI (2 * plZ Z (b : Int))) else stV (plZ Z) s b := rfl
      by_cases c : s.testBit b = true
      · rw [if_pos c, if_neg n10, wI_ok (x := 6 * bk) (by omega) (by omega), wI_ok (x := 6 * bk + (b : Int)) (by omega) (by omega), rd_ok (by omega) (by omega), e5, wr_ok (by omega) (by omega), es, if_pos c]
      · rw [if_neg c, if_pos p00, wr_ok (by omega) (by omega), es, if_neg c, Int.add_zero, wI_ok (by omega) (by omega)]
    obtain ⟨m', q1, q2, q3, q4⟩ := ih n (b + 1) (upm m 51 s (stV (plZ Z) s (b + 1))) (by omega) (by omega) (he.put (by simp)) (ru3 rfl rfl)
    exact ⟨m', step.trans q1, (eqO.refl.put (by simp)).trans q2, q3, fun q hq => by rw [q4 q hq, ru2 hq]⟩
theorem wp_walkM {Z S0 mM : zM} {bk x u : Int} (h : GG Z S0 mM bk 0) (x0 : 0 ≤ x) (x1 : x < 64) (u0 : 1 ≤ u) (u1 : u ≤ 6) : wp (M_walk_L33 (fun x1_9 x2_9 m10 => M_walk_L133 1000000 x1_9 x2_9 1 m10) 1000000 x u 0 mM) (fun r => r.1 = vkV (fun s => stV (plZ Z) s (Z 0 0).toNat) u.toNat x.toNat ∧ eqO [50, 51] mM r.2) := by
  have n1 := h.nb
  refine wp_for (fun n i (s : zM) => M_walk_L33 (fun x1_9 x2_9 m10 => M_walk_L133 1000000 x1_9 x2_9 1 m10) n x u i s) (fun i s => eqO [50, 51] mM s ∧ ∀ q : Nat, (q : Int) < i → s 51 q = stV (plZ Z) q (Z 0 0).toNat ∧ s 50 q = vkV (fun s => stV (plZ Z) s (Z 0 0).toNat) 0 q) _ 0 64 ?_ ?_ 1000000 0 mM (by omega) (by omega) (by omega) ⟨eqO.refl, fun q hq => by omega⟩
  · intro n s ⟨i1, i2⟩
    show wp (M_walk_B33 _ _ _ _ _ _) _
    unfold M_walk_B33
    rw [if_neg (by decide)]
    show wp (M_walk_L133 1000000 x u 1 s) _
    refine wp_for (fun n i (s : zM) => M_walk_L133 n x u i s) (fun i s => eqO [50, 51] mM s ∧ (∀ q : Nat, q < 64 → s 51 q = stV (plZ Z) q (Z 0 0).toNat) ∧ ∀ q : Nat, q < 64 → s 50 (64 * (i - 1) + (q : Int)) = vkV (fun s => stV (plZ Z) s (Z 0 0).toNat) (i - 1).toNat q) _ 1 (u + 1) ?_ ?_ 1000000 1 s (by omega) (by omega) (by omega) ⟨i1, fun q hq => (i2 q (by omega)).1, fun q hq => by rw [show 64 * (1 - 1 : Int) + (q : Int) = q from by omega]; exact (i2 q (by omega)).2⟩
    · intro n s ⟨j1, j2, j3⟩
      show wp (M_walk_B133 _ _ _ _ _) _
      unfold M_walk_B133
      have := j3 x.toNat (by omega)
      rw [show ((x.toNat : Nat) : Int) = x from by omega, show u + 1 - 1 = u from by omega] at this
      rw [if_pos (by omega), wI_ok (x := 64 * u) (by omega) (by omega), wI_ok (by omega) (by omega), rd_ok (by omega) (by omega)]
      exact wp_some ⟨this, j1⟩
    · intro n i s q0 q1 ⟨j1, j2, j3⟩ hr
      show wp (M_walk_B133 _ _ _ _ _) _
      unfold M_walk_B133
      rw [if_neg (by omega)]
      refine wp_for (fun k j (s : zM) => M_walk_L141 (fun x1_3 x2_3 x3_3 m4 => M_walk_L133 n x1_3 x2_3 (wI (x3_3 + 1)) m4) k x u i j s) (fun j s => eqO [50, 51] mM s ∧ (∀ q : Nat, q < 64 → s 51 q = stV (plZ Z) q (Z 0 0).toNat) ∧ (∀ q : Nat, q < 64 → s 50 (64 * (i - 1) + (q : Int)) = vkV (fun s => stV (plZ Z) s (Z 0 0).toNat) (i - 1).toNat q) ∧ ∀ q : Nat, (q : Int) < j → s 50 (64 * i + (q : Int)) = vkV (fun s => stV (plZ Z) s (Z 0 0).toNat) ((i - 1).toNat + 1) q) _ 0 64 ?_ ?_ 1000000 0 s (by omega) (by omega) (by omega) ⟨j1, j2, j3, fun q hq => by omega⟩
      · intro k s ⟨k1, k2, k3, k4⟩
        show wp (M_walk_B141 _ _ _ _ _ _ _) _
        unfold M_walk_B141
        rw [if_neg (by decide)]
        show wp (M_walk_L133 n x u (wI (i + 1)) s) _
        rw [wI_ok (by omega) (by omega)]
        refine hr s ⟨k1, k2, fun q hq => ?_⟩
        rw [show i + 1 - 1 = i from by omega, k4 q (by omega), show i.toNat = (i - 1).toNat + 1 from by omega]
      · intro k j s p0 p1 ⟨k1, k2, k3, k4⟩ hr2
        have ej : ((j.toNat : Nat) : Int) = j := by omega
        show wp (M_walk_B141 _ _ _ _ _ _ _) _
        unfold M_walk_B141
        have pm := fun k248 => partsM (k248 := k248) (m := s) (x1 := x) (x2 := u) (S := fun q => stV (plZ Z) q (Z 0 0).toNat) (f := vkV (fun s => stV (plZ Z) s (Z 0 0).toNat) (i - 1).toNat) (N := i) (s := j.toNat) (by omega) q0 (by omega) k3 k2 j.toNat 1000000 (vkV (fun s => stV (plZ Z) s (Z 0 0).toNat) (i - 1).toNat j.toNat) (Nat.le_refl _) (Nat.and_self _) (by omega) ⟨Int.le_refl _, fun q hq => by have := hq.1; have := hq.2.1; omega, Or.inl rfl⟩
        have kj := k3 j.toNat (by omega)
        rw [ej] at pm kj
        rw [if_pos p1, wI_ok (x := i - 1) (by omega) (by omega), wI_ok (x := 64 * (i - 1)) (by omega) (by omega), wI_ok (by omega) (by omega), rd_ok (by omega) (by omega), kj, pm]
        show wp (wr 50 448 (wI (wI (64 * i) + j)) _ s _) _
        rw [wI_ok (x := 64 * i) (by omega) (by omega), wI_ok (x := 64 * i + j) (by omega) (by omega), wr_ok (by omega) (by omega), wI_ok (x := j + 1) (by omega) (by omega)]
        refine hr2 _ ⟨k1.put (by simp), fun q hq => by rw [ru1 (by decide)]; exact k2 q hq, fun q hq => by rw [ru2 (by omega)]; exact k3 q hq, fun q hq => ?_⟩
        by_cases e : q = j.toNat
        · subst e
          rw [ej, ru3 rfl rfl]
          rfl
        · rw [ru2 (by omega)]
          exact k4 q (by omega)
  · intro n i s q0 q1 ⟨i1, i2⟩ hr
    have ei : ((i.toNat : Nat) : Int) = i := by omega
    show wp (M_walk_B33 _ _ _ _ _ _) _
    unfold M_walk_B33
    obtain ⟨m', e1, e2, e3, e4⟩ := stepsM (k108 := fun x1_3 x2_3 x3_3 m4 => (if x3_3 = 0 then
  wr 50 448 x3_3 0 m4 (fun m6 =>
  M_walk_L33 (fun x1_9 x2_9 m10 => M_walk_L133 1000000 x1_9 x2_9 1 m10) n x1_3 x2_3 (wI (x3_3 + 1)) m6)
  else wr 50 448 x3_3 100000000 m4 (fun m7 =>
  M_walk_L33 (fun x1_9 x2_9 m10 => M_walk_L133 1000000 x1_9 x2_9 1 m10) n x1_3 x2_3 (wI (x3_3 + 1)) m7))) (x1 := x) (x2 := u) (s := i.toNat) h (by omega) (Z 0 0).toNat 1000000 0 (upm s 51 i 0) (by omega) (by omega) (i1.put (by simp)) (by rw [ei]; exact ru3 rfl rfl)
    rw [ei] at e1 e3 e4
    rw [if_pos q1, wr_ok q0 (by omega)]
    show wp (M_walk_L49 _ 1000000 x u i ((0 : Nat) : Int) _) _
    rw [e1]
    have f1 : eqO [50, 51] mM m' := (i1.put (by simp)).trans (e2.mono (by simp))
    have fin : ∀ v, v = vkV (fun s => stV (plZ Z) s (Z 0 0).toNat) 0 i.toNat → wp (wr 50 448 i v m' (fun m6 => M_walk_L33 (fun x1_9 x2_9 m10 => M_walk_L133 1000000 x1_9 x2_9 1 m10) n x u (wI (i + 1)) m6)) (fun r => r.1 = vkV (fun s => stV (plZ Z) s (Z 0 0).toNat) u.toNat x.toNat ∧ eqO [50, 51] mM r.2) := by
      intro v hv
      rw [wr_ok q0 (by omega), wI_ok (by omega) (by omega)]
      refine hr _ ⟨f1.put (by simp), fun q hq => ?_⟩
      rw [ru1 (b := 51) (by decide)]
      by_cases e : q = i.toNat
      · subst e
        rw [ei, ru3 rfl rfl]
        exact ⟨e3, hv⟩
      · rw [ru2 (by omega), e4 _ (by omega), ru2 (by omega), e2 50 (by simp), ru1 (by decide)]
        exact i2 q (by omega)
    show wp (if i = 0 then _ else _) _
    by_cases c : i = 0
    · rw [if_pos c]
      exact fin 0 (by subst c; rfl)
    · rw [if_neg c]
      exact fin 100000000 (by show _ = if i.toNat = 0 then 0 else 100000000; rw [if_neg (by omega)])
theorem rs_walk {mC mM : zM} {x u : Int} (h : Rel mC mM) : wp (C_walk x u mC) (fun a => wp (M_walk x u mM) (fun b => a.1 = b.1 ∧ Rel a.2 b.2)) := by
  obtain ⟨z, Z, S, bk, hr⟩ := h.toZ
  obtain ⟨hz, h12, hs, hg, hu, hZ, hS⟩ := id hr
  have n1 := hg.nb
  have n3 := hg.bk
  have e2 : slI 1 (Z 0 0) = ((2 ^ (Z 0 0).toNat : Nat) : Int) := by
    rw [← slI_1 (by omega)]
    congr 1
    omega
  have p64 : 2 ^ (Z 0 0).toNat ≤ 64 := Nat.pow_le_pow_right (show 0 < 2 by decide) (show (Z 0 0).toNat ≤ 6 by omega)
  unfold C_walk M_walk
  rw [mro_ok h12 (kdz hz), mro_ok h12 (kdz hz), hg.2.2.1, rd_ok (by omega) (by omega), hg.1.1.1, show mC z 0 = Z 0 0 from by rw [rZ0 hZ], e2, is_ok, Option.bind_some]
  by_cases c0 : x < 0
  · rw [if_pos c0, if_pos c0]
    exact wp_some (wp_some ⟨rfl, h⟩)
  · rw [if_neg c0, if_neg c0]
    by_cases c1 : x < ((2 ^ (Z 0 0).toNat : Nat) : Int)
    · rw [if_pos c1, if_pos c1]
      by_cases c2 : 1 ≤ u ∧ u ≤ 6
      · rw [if_neg (show ¬ u < 1 by omega), if_neg (show ¬ 6 < u by omega), if_pos c2, if_neg n10]
        refine wp_bm (wp_walkC (m := mC) (a := z + 4) (pl := mC (z + 4)) (by omega) (by omega) (by omega) c2.1 c2.2 (fun j _ _ => rfl)) (fun r ⟨r1, r2⟩ => wp_some (wp_mono (wp_walkM hg (by omega) (by omega) c2.1 c2.2) (fun r' ⟨r3, r4⟩ => ⟨?_, ?_⟩)))
        · rw [r1, r3]
          have pb := plZ_b hg
          have sb : ∀ q, q < 64 → 0 ≤ stV (plZ Z) q (Z 0 0).toNat ∧ stV (plZ Z) q (Z 0 0).toNat ≤ 100000000 := fun q _ => by
            have := st_b (s := q) pb (Z 0 0).toNat (by omega)
            omega
          have e := vk_wk (S := fun s => stV (plZ Z) s (Z 0 0).toNat) (st_0 _) sb (u - 1).toNat x.toNat (by omega)
          rw [show u.toNat = (u - 1).toNat + 1 from by omega, e]
          refine wkV_congr (M := 2 ^ (Z 0 0).toNat) (fun q hq => ?_) (u - 1).toNat x.toNat (by omega)
          show stV (mC (z + 4)) q 6 = stV (plZ Z) q (Z 0 0).toNat
          have up := st_up (pl := mC (z + 4)) hq (6 - (Z 0 0).toNat)
          rw [show (Z 0 0).toNat + (6 - (Z 0 0).toNat) = 6 from by omega] at up
          rw [up]
          refine st_hi hq (fun j hj => ?_) _ (Nat.le_refl _)
          rw [rZ hZ 4 (by decide)]
          exact (if_pos ⟨by omega, by omega⟩).symm
        · show Rel r.2 r'.2
          subst hZ hS
          have hb := hg.2.2.1
          subst hb
          exact Rel.quietM hz hs hg hu r2 (by simp) r4 (by simp)
      · rw [if_neg c2, if_pos p00]
        by_cases q : u < 1
        · rw [if_pos q]
          exact wp_some (wp_some ⟨rfl, h⟩)
        · rw [if_neg q, if_pos (by omega)]
          exact wp_some (wp_some ⟨rfl, h⟩)
    · rw [if_neg c1, if_neg c1]
      exact wp_some (wp_some ⟨rfl, h⟩)
