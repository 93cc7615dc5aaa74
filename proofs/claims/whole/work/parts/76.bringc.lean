/-! the class's search -/
theorem wp_brFollow {Z S mM m : zM} {z ng nb : Nat} {bk : Int} (h : GG Z S mM bk 0) (hz : z = 55 ∨ z = 72) (hm : brC Z S m z) (hnb : (nb : Int) = Z 0 0) (hng : (ng : Int) = Z 0 1) (hx : ∀ b : Nat, b ≤ nb → ∀ s : Nat, s < 2 ^ ng → m (33 + b) (s : Int) = brV (lbV Z S) (Z 0 14) ng nb (nb - b) s) : wp (Br_follow z 26 48 m) (fun r => eqO [31] m r ∧ ∀ b : Nat, b < nb → r 31 (b : Int) = bstV (lbV Z S) (Z 0 14) ng nb b (sqV (lbV Z S) (Z 0 14) ng nb b) 9 0) := by
  have n1 := h.nb
  have n2 := h.ng
  have p := p256 (ng := ng) (by omega)
  have bb := fun r s => brV_b (lb := lbV Z S) (ush := Z 0 14) (ng := ng) (nb := nb) (by omega) (lb_b h) r s
  unfold Br_follow
  refine wp_for (fun n i (s : Int × zM) => Br_follow_L5 n z 26 48 s.1 i s.2) (fun i s => s.1 = (sqV (lbV Z S) (Z 0 14) ng nb i.toNat : Int) ∧ eqO [31] m s.2 ∧ ∀ b : Nat, (b : Int) < i → s.2 31 (b : Int) = bstV (lbV Z S) (Z 0 14) ng nb b (sqV (lbV Z S) (Z 0 14) ng nb b) 9 0) _ 0 (nb : Int) ?_ ?_ 1000000 0 (0, m) (by omega) (by omega) (by omega) ⟨rfl, eqO.refl, fun b hb => by omega⟩
  · intro n s ⟨i1, i2, i3⟩
    show wp (Br_follow_B5 _ _ _ _ _ _ _) _
    unfold Br_follow_B5
    rw [i2 z (by simp; omega), rZ0 hm.1, if_neg (by omega)]
    exact wp_some ⟨i2, fun b hb => i3 b (by omega)⟩
  · intro n i s q0 q1 ⟨i1, i2, i3⟩ hr
    have ei : ((i.toNat : Nat) : Int) = i := by omega
    have en : (i + 1).toNat = i.toNat + 1 := by omega
    have sq := sq_b (lb := lbV Z S) (ush := Z 0 14) (ng := ng) (nb := nb) i.toNat
    have hbn : i.toNat < nb := by omega
    -- the inner loop
    have K : ∀ (d k g : Nat) (m1 : zM), g + d = ng → d < k → d < 9 - 0 → eqO [31] m m1 → m1 31 i = -1 → (∀ q, q ≠ i → m1 31 q = s.2 31 q) → ∃ m2, Br_follow_L25 (fun o1_4 a2_4 n2_4 x3_4 x4_4 m5 => Br_follow_b95 (Br_follow_L5 n) o1_4 a2_4 n2_4 x3_4 x4_4 m5) k z 26 48 s.1 i (g : Int) m1 = Br_follow_b95 (Br_follow_L5 n) z 26 48 s.1 i m2 ∧ eqO [31] m m2 ∧ m2 31 i = bstV (lbV Z S) (Z 0 14) ng nb i.toNat (sqV (lbV Z S) (Z 0 14) ng nb i.toNat) (d + 1) g ∧ ∀ q, q ≠ i → m2 31 q = s.2 31 q := by
      intro d
      induction d with
      | zero =>
        intro k g m1 hg hk _ h1 h2 h3
        obtain ⟨k, rfl⟩ : ∃ q, k = q + 1 := ⟨k - 1, by omega⟩
        refine ⟨m1, ?_, h1, ?_, h3⟩
        · show Br_follow_B25 _ _ _ _ _ _ _ _ _ = _
          unfold Br_follow_B25
          rw [h1 z (by simp; omega), rZ0 hm.1, if_neg (by omega)]
        · rw [h2]
          unfold bstV
          rw [if_neg (by omega)]
      | succ d ih =>
        intro k g m1 hg hk hd h1 h2 h3
        obtain ⟨k, rfl⟩ : ∃ q, k = q + 1 := ⟨k - 1, by omega⟩
        have hm1 : brC Z S m1 z := ⟨by rw [← hm.1]; exact zv_eq fun q _ _ => h1 _ (by simp; omega), fun b g hb hg => by rw [h1 26 (by simp)]; exact hm.2 b g hb hg⟩
        have x1 : ∀ b : Nat, b ≤ nb → ∀ s : Nat, s < 2 ^ ng → m1 (33 + b) (s : Int) = brV (lbV Z S) (Z 0 14) ng nb (nb - b) s := fun b hb s hs => by rw [h1 (33 + b) (by simp; omega)]; exact hx b hb s hs
        have eB : bstV (lbV Z S) (Z 0 14) ng nb i.toNat (sqV (lbV Z S) (Z 0 14) ng nb i.toNat) (d + 1 + 1) g = if canV (lbV Z S) (Z 0 14) i.toNat g (sqV (lbV Z S) (Z 0 14) ng nb i.toNat) = true ∧ lbV Z S i.toNat g + brV (lbV Z S) (Z 0 14) ng nb (nb - (i.toNat + 1)) (sqV (lbV Z S) (Z 0 14) ng nb i.toNat ||| 2 ^ g) = brV (lbV Z S) (Z 0 14) ng nb (nb - i.toNat) (sqV (lbV Z S) (Z 0 14) ng nb i.toNat) then (g : Int) else bstV (lbV Z S) (Z 0 14) ng nb i.toNat (sqV (lbV Z S) (Z 0 14) ng nb i.toNat) (d + 1) (g + 1) := by
          show (if g < ng then _ else _) = _
          rw [if_pos (by omega)]
        have cc := canC (g := g) (b := i.toNat) (s := sqV (lbV Z S) (Z 0 14) ng nb i.toNat) h hm1 (by omega) (by omega) (by omega)
        rw [ei] at cc
        rw [eB]
        show ∃ m2, Br_follow_B25 _ _ _ _ _ _ _ _ _ = _ ∧ _
        unfold Br_follow_B25
        rw [h1 z (by simp; omega), rZ0 hm.1, if_pos (by omega), rd_ok q0 (by omega), h2, if_pos rfl, i1, cc, Option.bind_some, wI_ok (x := (g : Int) + 1) (by omega) (by omega), ← i1]
        have nxt := ih k (g + 1) m1 (by omega) (by omega) (by omega) h1 h2 h3
        rw [show ((g + 1 : Nat) : Int) = (g : Int) + 1 from by omega] at nxt
        by_cases c : canV (lbV Z S) (Z 0 14) i.toNat g (sqV (lbV Z S) (Z 0 14) ng nb i.toNat) = true
        · have wc := withC (b := i.toNat) (g := g) (ng := ng) (nb := nb) (s := sqV (lbV Z S) (Z 0 14) ng nb i.toNat) h hm1 hbn hnb (by omega) hng sq c (nx := brV (lbV Z S) (Z 0 14) ng nb (nb - (i.toNat + 1))) (fun s hs => x1 (i.toNat + 1) (by omega) s hs) (fun s => by have := bb (nb - (i.toNat + 1)) s; omega)
          rw [ei] at wc
          rw [if_pos c, if_neg n10, i1, wc, Option.bind_some, gi_ok q0 (by omega), rd_ok (by omega) (by omega), show 32 + 1 + i.toNat = 33 + i.toNat from by omega, x1 i.toNat (by omega) _ sq, ← i1]
          by_cases e : lbV Z S i.toNat g + brV (lbV Z S) (Z 0 14) ng nb (nb - (i.toNat + 1)) (sqV (lbV Z S) (Z 0 14) ng nb i.toNat ||| 2 ^ g) = brV (lbV Z S) (Z 0 14) ng nb (nb - i.toNat) (sqV (lbV Z S) (Z 0 14) ng nb i.toNat)
          · rw [if_pos e, if_pos ⟨c, e⟩, wr_ok q0 (by omega)]
            -- found: nothing more is looked at
            have D : ∀ (dd kk gg : Nat), gg + dd = ng → dd < kk → Br_follow_L25 (fun o1_4 a2_4 n2_4 x3_4 x4_4 m5 => Br_follow_b95 (Br_follow_L5 n) o1_4 a2_4 n2_4 x3_4 x4_4 m5) kk z 26 48 s.1 i (gg : Int) (upm m1 31 i (g : Int)) = Br_follow_b95 (Br_follow_L5 n) z 26 48 s.1 i (upm m1 31 i (g : Int)) := by
              intro dd kk gg hgg hkk
              obtain ⟨kk, rfl⟩ : ∃ q, kk = q + 1 := ⟨kk - 1, by omega⟩
              show Br_follow_B25 _ _ _ _ _ _ _ _ _ = _
              unfold Br_follow_B25
              rw [ru1 (a := 31) (b := z) (by omega), h1 z (by simp; omega), rZ0 hm.1]
              by_cases t : (gg : Int) < Z 0 1
              · rw [if_pos t, rd_ok q0 (by omega), ru3 rfl rfl, if_neg (by omega)]
              · rw [if_neg t]
            refine ⟨upm m1 31 i (g : Int), ?_, h1.put (by simp), ru3 rfl rfl, fun q hq => by rw [ru2 hq]; exact h3 q hq⟩
            have := D d k (g + 1) (by omega) (by omega)
            rw [show ((g + 1 : Nat) : Int) = (g : Int) + 1 from by omega] at this
            exact this
          · rw [if_neg e, if_neg (fun t => e t.2)]
            exact nxt
        · rw [if_neg c, if_pos p00, if_neg (fun t => c t.1)]
          exact nxt
    show wp (Br_follow_B5 _ _ _ _ _ _ _) _
    unfold Br_follow_B5
    rw [i2 z (by simp; omega), rZ0 hm.1, if_pos (by omega), wr_ok q0 (by omega)]
    have kk : ∃ m2, Br_follow_L25 (fun o1_4 a2_4 n2_4 x3_4 x4_4 m5 => Br_follow_b95 (Br_follow_L5 n) o1_4 a2_4 n2_4 x3_4 x4_4 m5) 1000000 z 26 48 s.1 i 0 (upm s.2 31 i (-1)) = Br_follow_b95 (Br_follow_L5 n) z 26 48 s.1 i m2 ∧ eqO [31] m m2 ∧ m2 31 i = bstV (lbV Z S) (Z 0 14) ng nb i.toNat (sqV (lbV Z S) (Z 0 14) ng nb i.toNat) (ng + 1) 0 ∧ ∀ q, q ≠ i → m2 31 q = s.2 31 q := K ng 1000000 0 _ (by omega) (by omega) (by omega) (i2.put (by simp)) (ru3 rfl rfl) (fun q hq => ru2 hq)
    obtain ⟨m2, k1, k2, k3, k4⟩ := kk
    -- fuel doesn't matter
    have fu : ∀ (d n g : Nat), g + d = ng → d < n → bstV (lbV Z S) (Z 0 14) ng nb i.toNat (sqV (lbV Z S) (Z 0 14) ng nb i.toNat) n g = bstV (lbV Z S) (Z 0 14) ng nb i.toNat (sqV (lbV Z S) (Z 0 14) ng nb i.toNat) (d + 1) g := by
      intro d
      induction d with
      | zero =>
        intro n g hg hn
        obtain ⟨n, rfl⟩ : ∃ q, n = q + 1 := ⟨n - 1, by omega⟩
        show (if g < ng then _ else _) = (if g < ng then _ else _)
        rw [if_neg (by omega), if_neg (by omega)]
      | succ d ih =>
        intro n g hg hn
        obtain ⟨n, rfl⟩ : ∃ q, n = q + 1 := ⟨n - 1, by omega⟩
        show (if g < ng then _ else _) = (if g < ng then _ else _)
        rw [ih n (g + 1) (by omega) (by omega)]
    rw [← fu ng 9 0 (by omega) (by omega)] at k3
    have bd := bst_b (lb := lbV Z S) (ush := Z 0 14) (ng := ng) (nb := nb) (b := i.toNat) (s := sqV (lbV Z S) (Z 0 14) ng nb i.toNat) 9 0
    have i4 : ∀ b : Nat, (b : Int) < i + 1 → m2 31 (b : Int) = bstV (lbV Z S) (Z 0 14) ng nb b (sqV (lbV Z S) (Z 0 14) ng nb b) 9 0 := by
      intro b hb
      by_cases e : b = i.toNat
      · subst e
        rw [ei]; exact k3
      · rw [k4 _ (by omega)]
        exact i3 b (by omega)
    rw [k1]
    unfold Br_follow_b95
    rw [rd_ok q0 (by omega), rd_ok q0 (by omega), k3, wI_ok (by omega) (by omega)]
    have eS : sqV (lbV Z S) (Z 0 14) ng nb (i.toNat + 1) = if bstV (lbV Z S) (Z 0 14) ng nb i.toNat (sqV (lbV Z S) (Z 0 14) ng nb i.toNat) 9 0 = -1 then sqV (lbV Z S) (Z 0 14) ng nb i.toNat else sqV (lbV Z S) (Z 0 14) ng nb i.toNat ||| 2 ^ (bstV (lbV Z S) (Z 0 14) ng nb i.toNat (sqV (lbV Z S) (Z 0 14) ng nb i.toNat) 9 0).toNat := rfl
    generalize bstV (lbV Z S) (Z 0 14) ng nb i.toNat (sqV (lbV Z S) (Z 0 14) ng nb i.toNat) 9 0 = v at *
    by_cases c : v = -1
    · rw [if_pos c]
      rw [if_pos c] at eS
      exact hr (s.1, m2) ⟨by rw [en, eS]; exact i1, k2, i4⟩
    · rw [if_neg c, lt_ok]
      rw [if_neg c] at eS
      have pv : 2 ^ v.toNat < 2 ^ ng := Nat.pow_lt_pow_right (by decide) (by omega)
      have eo : orI s.1 (slI 1 v) = ((sqV (lbV Z S) (Z 0 14) ng nb i.toNat ||| 2 ^ v.toNat : Nat) : Int) := by
        rw [i1, show v = ((v.toNat : Nat) : Int) from by omega, slI_1 (by omega), orI_nat (by omega) (by omega)]
        rw [Int.toNat_natCast]
      rw [eo]
      exact hr (((sqV (lbV Z S) (Z 0 14) ng nb i.toNat ||| 2 ^ v.toNat : Nat) : Int), m2) ⟨by rw [en, eS], k2, i4⟩
theorem wp_brFind {Z S mM m : zM} {z ng nb : Nat} {bk : Int} (h : GG Z S mM bk 0) (hz : z = 55 ∨ z = 72) (hm : brC Z S m z) (hnb : (nb : Int) = Z 0 0) (hng : (ng : Int) = Z 0 1) : wp (Br_find z 26 48 m) (fun r => eqO [30, 31, 33, 34, 35, 36, 37, 38, 39] m r ∧ r 30 0 = brV (lbV Z S) (Z 0 14) ng nb nb 0 ∧ ∀ b : Nat, b < nb → r 31 (b : Int) = bstV (lbV Z S) (Z 0 14) ng nb b (sqV (lbV Z S) (Z 0 14) ng nb b) 9 0) := by
  have n1 := h.nb
  have n2 := h.ng
  have p := p256 (ng := ng) (by omega)
  have bb := fun r s => brV_b (lb := lbV Z S) (ush := Z 0 14) (ng := ng) (nb := nb) (by omega) (lb_b h) r s
  have e2 : slI 1 (Z 0 1) = ((2 ^ ng : Nat) : Int) := by rw [← hng, slI_1 (by omega)]
  have mem : ∀ b : Nat, b ≤ nb → 33 + b ∈ [30, 31, 33, 34, 35, 36, 37, 38, 39] := by
    intro b hb
    have : b = 0 ∨ b = 1 ∨ b = 2 ∨ b = 3 ∨ b = 4 ∨ b = 5 ∨ b = 6 := by omega
    rcases this with e | e | e | e | e | e | e <;> subst e <;> decide
  have keepC : ∀ m', eqO [30, 31, 33, 34, 35, 36, 37, 38, 39] m m' → brC Z S m' z := fun m' k => ⟨by rw [← hm.1]; exact zv_eq fun q _ _ => k _ (by simp; omega), fun b g hb hg => by rw [k 26 (by simp)]; exact hm.2 b g hb hg⟩
  unfold Br_find
  rw [rZ0 hm.1, e2, lt_ok]
  have p0 : (0 : Int) ≤ ((2 ^ ng : Nat) : Int) := Int.natCast_nonneg _
  have p1 : ((2 ^ ng : Nat) : Int) ≤ 256 := by have := Int.ofNat_le.mpr p; omega
  clear e2
  refine wp_for (fun n i (s : zM) => Br_find_L10 (fun o1_3 a2_3 n2_3 x3_3 m4 => Br_find_b43 o1_3 a2_3 n2_3 x3_3 m4) n z 26 48 ((2 ^ ng : Nat) : Int) i s) (fun i s => eqO [30, 31, 33, 34, 35, 36, 37, 38, 39] m s ∧ ∀ q : Nat, (q : Int) < i → s (33 + nb) (q : Int) = 0) _ 0 ((2 ^ ng : Nat) : Int) ?_ ?_ 1000000 0 m (by omega) (by omega) (by omega) ⟨eqO.refl, fun q hq => by omega⟩
  · intro n s ⟨i1, i2⟩
    show wp (Br_find_B10 _ _ _ _ _ _ _ _) _
    unfold Br_find_B10
    rw [if_neg (by omega)]
    show wp (Br_find_b43 z 26 48 ((2 ^ ng : Nat) : Int) s) _
    unfold Br_find_b43
    rw [rZ0 (keepC s i1).1, wI_ok (by omega) (by omega), lt_ok, show Z 0 0 - 1 = (nb : Int) - 1 - 0 from by omega]
    refine wp_for (fun k r (s : zM) => Br_find_L51 (fun o1_3 a2_3 n2_3 m4 => gi 7 0 (rd (32 + 1 + Int.toNat 0) 256 0 m4 (fun y7 =>
  pf 30 0 y7 m4 (fun m8 =>
  (Br_follow o1_3 a2_3 n2_3 m8).bind (fun r9 =>
  some r9))))) k z 26 48 ((2 ^ ng : Nat) : Int) ((nb : Int) - 1 - r) s) (fun r s => eqO [30, 31, 33, 34, 35, 36, 37, 38, 39] m s ∧ ∀ b : Nat, b ≤ nb → (nb : Int) - b ≤ r → ∀ q : Nat, q < 2 ^ ng → s (33 + b) (q : Int) = brV (lbV Z S) (Z 0 14) ng nb (nb - b) q) _ 0 (nb : Int) ?_ ?_ 1000000 0 s (by omega) (by omega) (by omega) ⟨i1, fun b hb hr q hq => ?_⟩
    · intro k s ⟨j1, j2⟩
      show wp (Br_find_B51 _ _ _ _ _ _ _ _) _
      unfold Br_find_B51
      rw [if_pos (by omega)]
      show wp (gi 7 0 (rd (32 + 1 + Int.toNat 0) 256 0 s (fun y7 => pf 30 0 y7 s (fun m8 => (Br_follow z 26 48 m8).bind (fun r9 => some r9))))) _
      have j0 := j2 0 (by omega) (by omega) 0 (Nat.pow_pos (by decide))
      rw [gi_ok (by decide) (by decide), rd_ok (by decide) (by decide), pf_ok, show s (32 + 1 + Int.toNat 0) 0 = brV (lbV Z S) (Z 0 14) ng nb nb 0 from j0]
      have k3 : eqO [30, 31, 33, 34, 35, 36, 37, 38, 39] m (upm s 30 0 (brV (lbV Z S) (Z 0 14) ng nb nb 0)) := j1.put (by simp)
      refine wp_bm (wp_brFollow h hz (keepC _ k3) hnb hng (fun b hb q hq => by rw [ru1 (by omega)]; exact j2 b hb (by omega) q hq)) (fun r ⟨f1, f2⟩ => wp_some ⟨k3.trans (f1.mono (by simp)), ?_, f2⟩)
      rw [f1 30 (by simp), ru3 rfl rfl]
    · intro k r s q0 q1 ⟨j1, j2⟩ hr
      show wp (Br_find_B51 _ _ _ _ _ _ _ _) _
      unfold Br_find_B51
      rw [if_neg (by omega)]
      have eb : (((nb - 1 - r.toNat : Nat)) : Int) = (nb : Int) - 1 - r := by omega
      refine wp_for (fun kk j (s : zM) => Br_find_L59 (fun o1_2 a2_2 n2_2 x3_2 x4_2 m3 => Br_find_L51 (fun o1_3 a2_3 n2_3 m4 => gi 7 0 (rd (32 + 1 + Int.toNat 0) 256 0 m4 (fun y7 =>
  pf 30 0 y7 m4 (fun m8 =>
  (Br_follow o1_3 a2_3 n2_3 m8).bind (fun r9 =>
  some r9))))) k o1_2 a2_2 n2_2 x3_2 (wI (x4_2 + (-1))) m3) kk z 26 48 ((2 ^ ng : Nat) : Int) ((nb : Int) - 1 - r) j s) (fun j s => eqO [30, 31, 33, 34, 35, 36, 37, 38, 39] m s ∧ (∀ b : Nat, b ≤ nb → (nb : Int) - b ≤ r → ∀ q : Nat, q < 2 ^ ng → s (33 + b) (q : Int) = brV (lbV Z S) (Z 0 14) ng nb (nb - b) q) ∧ ∀ q : Nat, (q : Int) < j → s (33 + (nb - 1 - r.toNat)) (q : Int) = brV (lbV Z S) (Z 0 14) ng nb (r.toNat + 1) q) _ 0 ((2 ^ ng : Nat) : Int) ?_ ?_ 1000000 0 s (by omega) (by omega) (by omega) ⟨j1, j2, fun q hq => by omega⟩
      · intro kk s ⟨k1, k2, k3⟩
        show wp (Br_find_B59 _ _ _ _ _ _ _ _ _) _
        unfold Br_find_B59
        rw [if_neg (by omega)]
        show wp (Br_find_L51 _ k z 26 48 ((2 ^ ng : Nat) : Int) (wI ((nb : Int) - 1 - r + (-1))) s) _
        rw [wI_ok (by omega) (by omega), show (nb : Int) - 1 - r + -1 = (nb : Int) - 1 - (r + 1) from by omega]
        refine hr s ⟨k1, fun b hb hbr q hq => ?_⟩
        by_cases e : (nb : Int) - b ≤ r
        · exact k2 b hb e q hq
        · have := k3 q (by omega)
          rw [show nb - 1 - r.toNat = b from by omega] at this
          rw [this, show nb - b = r.toNat + 1 from by omega]
      · intro kk j s p0 p1 ⟨k1, k2, k3⟩ hr2
        have ej : ((j.toNat : Nat) : Int) = j := by omega
        have mc := mostC (b := nb - 1 - r.toNat) (s := j.toNat) (ng := ng) (nb := nb) h (keepC s k1) (by omega) hnb hng (by omega) (nx := brV (lbV Z S) (Z 0 14) ng nb r.toNat) (fun q hq => by rw [show nb - 1 - r.toNat + 1 = nb - r.toNat from by omega, k2 (nb - r.toNat) (by omega) (by omega) q hq, show nb - (nb - r.toNat) = r.toNat from by omega]) (fun q => by have := bb r.toNat q; omega)
        rw [eb, ej] at mc
        show wp (Br_find_B59 _ _ _ _ _ _ _ _ _) _
        unfold Br_find_B59
        rw [if_pos p1, if_pos (by omega), gi_ok (by omega) (by omega), mc, Option.bind_some, wr_ok p0 (by omega), wI_ok (by omega) (by omega), show 32 + 1 + ((nb : Int) - 1 - r).toNat = 33 + (nb - 1 - r.toNat) from by omega]
        refine hr2 _ ⟨k1.put (mem _ (by omega)), fun b hb hbr q hq => by rw [ru1 (by omega)]; exact k2 b hb hbr q hq, fun q hq => ?_⟩
        by_cases e : q = j.toNat
        · subst e
          rw [ej, ru3 rfl rfl]
          show _ = brG (lbV Z S) (Z 0 14) (nb - (r.toNat + 1)) _ _ _
          rw [show nb - (r.toNat + 1) = nb - 1 - r.toNat from by omega]
        · rw [ru2 (by omega)]
          exact k3 q (by omega)
    · have : b = nb := by omega
      subst this
      rw [i2 q (by omega), Nat.sub_self]
      rfl
  · intro n i s q0 q1 ⟨i1, i2⟩ hr
    show wp (Br_find_B10 _ _ _ _ _ _ _ _) _
    unfold Br_find_B10
    rw [if_pos q1, if_pos (by omega), rZ0 (keepC s i1).1, gi_ok (by omega) (by omega), wr_ok q0 (by omega), wI_ok (by omega) (by omega), show 32 + 1 + (Z 0 0).toNat = 33 + nb from by omega]
    refine hr _ ⟨i1.put (mem nb (Nat.le_refl _)), fun q hq => ?_⟩
    by_cases e : (q : Int) = i
    · rw [e, ru3 rfl rfl]
    · rw [ru2 e]
      exact i2 q (by omega)
