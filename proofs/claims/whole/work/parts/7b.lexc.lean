/-! the class: one token -/
theorem pad_ok {x : Int} {k : Nat} (hk : k ≤ 6) (x0 : 0 ≤ x) (x1 : x * 27 ^ (6 - k) < 2147483648) : Ta_padded x (k : Int) = some (x * 27 ^ (6 - k)) := by
  have K : ∀ (d n i : Nat) (y : Int), i + d = 6 → d < n → 0 ≤ y → y * 27 ^ d < 2147483648 → Ta_padded_L4 n y (i : Int) = some (y * 27 ^ d) := by
    intro d
    induction d with
    | zero =>
      intro n i y hi hn y0 y1
      obtain ⟨n, rfl⟩ : ∃ k, n = k + 1 := ⟨n - 1, by omega⟩
      show Ta_padded_B4 _ _ _ = _
      unfold Ta_padded_B4
      rw [if_neg (by omega), Int.pow_zero, Int.mul_one]
    | succ d ih =>
      intro n i y hi hn y0 y1
      obtain ⟨n, rfl⟩ : ∃ k, n = k + 1 := ⟨n - 1, by omega⟩
      have p := Int.pow_pos (n := 27) (m := d) (by decide)
      have e : y * 27 ^ (d + 1) = y * 27 * 27 ^ d := by rw [Int.pow_succ, Int.mul_comm (27 ^ d), ← Int.mul_assoc]
      have m1 := Int.mul_le_mul_of_nonneg_left (show (1 : Int) ≤ 27 ^ d by omega) (show 0 ≤ y * 27 by omega)
      have i1 := ih n (i + 1) (y * 27) (by omega) (by omega) (by omega) (by omega)
      show Ta_padded_B4 _ _ _ = _
      unfold Ta_padded_B4
      rw [if_pos (by omega), wI_ok (x := y * 27) (by omega) (by omega), lt_ok, wI_ok (by omega) (by omega), e]
      exact i1
  exact K (6 - k) 1000000 k x (by omega) (by omega) x0 x1
def knd (x : Int) (kd : Int) : Prop := (∃ k : Nat, k < 30 ∧ kd = 300 + (k : Int) ∧ OWNC.getD k 0 = x) ∨ (kd = 258 ∧ ∀ k : Nat, k < 30 → OWNC.getD k 0 ≠ x)
theorem own_C {m : zM} {x : Int} (ho : RO (m 7)) : ∃ kd, knd x kd ∧ Ta_scanWord_L95 1000000 x 0 m = some (kd, m) := by
  have K : ∀ (d n j : Nat), j + d = 30 → d < n → (∀ k : Nat, k < j → OWNC.getD k 0 ≠ x) → ∃ kd, knd x kd ∧ Ta_scanWord_L95 n x (j : Int) m = some (kd, m) := by
    intro d
    induction d with
    | zero =>
      intro n j hj hn h
      obtain ⟨n, rfl⟩ : ∃ k, n = k + 1 := ⟨n - 1, by omega⟩
      refine ⟨258, Or.inr ⟨rfl, fun k hk => h k (by omega)⟩, ?_⟩
      show Ta_scanWord_B95 _ _ _ _ = _
      unfold Ta_scanWord_B95
      rw [if_neg (by omega)]
    | succ d ih =>
      intro n j hj hn h
      obtain ⟨n, rfl⟩ : ∃ k, n = k + 1 := ⟨n - 1, by omega⟩
      by_cases c : OWNC.getD j 0 = x
      · refine ⟨300 + (j : Int), Or.inl ⟨j, by omega, rfl, c⟩, ?_⟩
        show Ta_scanWord_B95 _ _ _ _ = _
        unfold Ta_scanWord_B95
        rw [if_pos (by omega), rd_ok (by omega) (by omega), if_pos (by rw [ho j (by omega)]; exact c), wI_ok (by omega) (by omega)]
      · obtain ⟨kd, k1, k2⟩ := ih n (j + 1) (by omega) (by omega) (fun k hk => by
          by_cases e : k = j
          · rw [e]; exact c
          · exact h k (by omega))
        refine ⟨kd, k1, ?_⟩
        show Ta_scanWord_B95 _ _ _ _ = _
        unfold Ta_scanWord_B95
        rw [if_pos (by omega), rd_ok (by omega) (by omega), if_neg (by rw [ho j (by omega)]; exact c), wI_ok (by omega) (by omega)]
        exact k2
  exact K 30 1000000 0 (by omega) (by omega) (fun k hk => by omega)
theorem word_C {m : zM} {K : Int → Int → zM → Option (Int × zM)} {a q : Int} (h : Rn bL (m 3) (m 2 1) a q) (ha : m 2 8 = a) (a0 : 0 ≤ a) (hN : m 2 1 ≤ 1600) : Ta_scanWord_L4 K 1000000 0 0 m = if a + 7 ≤ q then some (257, upm (upm m 2 8 (a + 6)) 2 6 (a + 6)) else K (hcv (m 3) a (q - a).toNat) (q - a) (upm m 2 8 q) := by
  have Q : ∀ (d n k : Nat), a + (k : Int) + (d : Int) = q → k ≤ 6 → d < n → Ta_scanWord_L4 K n (hcv (m 3) a k) (k : Int) (upm m 2 8 (a + (k : Int))) = if a + 7 ≤ q then some (257, upm (upm m 2 8 (a + 6)) 2 6 (a + 6)) else K (hcv (m 3) a (q - a).toNat) (q - a) (upm m 2 8 q) := by
    intro d
    induction d with
    | zero =>
      intro n k hk h6 hn
      obtain ⟨n, rfl⟩ : ∃ k, n = k + 1 := ⟨n - 1, by omega⟩
      have e : a + (k : Int) = q := by omega
      show Ta_scanWord_B4 _ _ _ _ _ = _
      unfold Ta_scanWord_B4
      rw [ru3 rfl rfl, ru2 (by decide), if_neg (show ¬ a + 7 ≤ q by omega)]
      have ek : (q - a).toNat = k := by omega
      have ek2 : q - a = (k : Int) := by omega
      rw [ek, ek2, e]
      by_cases c : q < m 2 1
      · rw [if_pos c, rd_ok (by omega) (by omega), upm_ne (a := 2) (b := 3) (by decide), isL_C0 (h.end c), Option.bind_some, if_pos rfl]
      · rw [if_neg c]
    | succ d ih =>
      intro n k hk h6 hn
      obtain ⟨n, rfl⟩ : ∃ k, n = k + 1 := ⟨n - 1, by omega⟩
      obtain ⟨w1, w2⟩ := h.in (show a ≤ a + (k : Int) by omega) (by omega)
      have w3 := w2
      rw [bL_t] at w3
      show Ta_scanWord_B4 _ _ _ _ _ = _
      unfold Ta_scanWord_B4
      rw [ru3 rfl rfl, ru2 (by decide), if_pos w1, rd_ok (by omega) (by omega), upm_ne (a := 2) (b := 3) (by decide), isL_C1 w2, Option.bind_some, if_neg (by decide)]
      by_cases c : k = 6
      · subst c
        rw [if_pos (by decide), if_pos (show a + 7 ≤ q by omega)]
        unfold Ta_badHere
        rw [pf_ok, ru3 rfl rfl, Option.bind_some]
        rfl
      · have hb := hcv_b (t := m 3) (a := a) k (fun j j0 j1 => (h.in j0 (by omega)).2)
        have pp := p27s (k := k) (by omega)
        have ih' := ih n (k + 1) (by omega) (by omega) (by omega)
        rw [if_neg (by omega), rd_ok (by omega) (by omega), upm_ne (a := 2) (b := 3) (by decide), wI_ok (x := hcv (m 3) a k * 27) (by omega) (by omega), wI_ok (x := hcv (m 3) a k * 27 + m 3 (a + (k : Int))) (by omega) (by omega), wI_ok (x := hcv (m 3) a k * 27 + m 3 (a + (k : Int)) - 97) (by omega) (by omega), wI_ok (x := hcv (m 3) a k * 27 + m 3 (a + (k : Int)) - 97 + 1) (by omega) (by omega), lt_ok, wI_ok (x := a + (k : Int) + 1) (by omega) (by omega), pf_ok, upm_upm, wI_ok (by omega) (by omega)]
        have eh : hcv (m 3) a (k + 1) = hcv (m 3) a k * 27 + (m 3 (a + (k : Int)) - 96) := rfl
        rw [eh] at ih'
        rw [show hcv (m 3) a k * 27 + m 3 (a + (k : Int)) - 97 + 1 = hcv (m 3) a k * 27 + (m 3 (a + (k : Int)) - 96) from by omega, show (k : Int) + 1 = ((k + 1 : Nat) : Int) from by omega, show a + (k : Int) + 1 = a + ((k + 1 : Nat) : Int) from by omega]
        exact ih'
  have := Q (q - a).toNat 1000000 0 (by have := h.1; omega) (by omega) (by have := h.2.1; omega)
  rw [show a + ((0 : Nat) : Int) = a from by omega, ← ha, upm_self, ha] at this
  exact this
theorem num_C {m : zM} {a q : Int} (h : Rn bD (m 3) (m 2 1) a q) (ha : m 2 8 = a) (a0 : 0 ≤ a) (hN : m 2 1 ≤ 1600) (i0 : 0 ≤ m 2 5) (i1 : m 2 5 < 1601) : Ta_scanNumber m = if a + 5 ≤ q then some (257, upm (upm m 2 8 (a + 4)) 2 6 (a + 4)) else some (259, upm (upm m 2 8 q) 6 (m 2 5) (nuv (m 3) a (q - a).toNat)) := by
  have Q : ∀ (d n k : Nat), a + (k : Int) + (d : Int) = q → k ≤ 4 → d < n → Ta_scanNumber_L4 n (nuv (m 3) a k) (k : Int) (upm m 2 8 (a + (k : Int))) = if a + 5 ≤ q then some (257, upm (upm m 2 8 (a + 4)) 2 6 (a + 4)) else some (259, upm (upm m 2 8 q) 6 (m 2 5) (nuv (m 3) a (q - a).toNat)) := by
    intro d
    induction d with
    | zero =>
      intro n k hk h6 hn
      obtain ⟨n, rfl⟩ : ∃ k, n = k + 1 := ⟨n - 1, by omega⟩
      have e : a + (k : Int) = q := by omega
      show Ta_scanNumber_B4 _ _ _ _ = _
      unfold Ta_scanNumber_B4
      rw [ru3 rfl rfl, ru2 (by decide), ru2 (i := 8) (j := 5) (by decide), if_neg (show ¬ a + 5 ≤ q by omega)]
      have ek : (q - a).toNat = k := by omega
      rw [ek, e]
      by_cases c : q < m 2 1
      · rw [if_pos c, rd_ok (by omega) (by omega), upm_ne (a := 2) (b := 3) (by decide), isD_C0 (h.end c), Option.bind_some, if_pos rfl, wr_ok i0 i1]
      · rw [if_neg c, wr_ok i0 i1]
    | succ d ih =>
      intro n k hk h6 hn
      obtain ⟨n, rfl⟩ : ∃ k, n = k + 1 := ⟨n - 1, by omega⟩
      obtain ⟨w1, w2⟩ := h.in (show a ≤ a + (k : Int) by omega) (by omega)
      have w3 := w2
      rw [bD_t] at w3
      show Ta_scanNumber_B4 _ _ _ _ = _
      unfold Ta_scanNumber_B4
      rw [ru3 rfl rfl, ru2 (by decide), if_pos w1, rd_ok (by omega) (by omega), upm_ne (a := 2) (b := 3) (by decide), isD_C1 w2, Option.bind_some, if_neg (by decide)]
      by_cases c : k = 4
      · subst c
        rw [if_pos (by decide), if_pos (show a + 5 ≤ q by omega)]
        unfold Ta_badHere
        rw [pf_ok, ru3 rfl rfl, Option.bind_some]
        rfl
      · have hb := nuv_b (t := m 3) (a := a) k (fun j j0 j1 => (h.in j0 (by omega)).2)
        have pp := p10 (k := k) (by omega)
        have ih' := ih n (k + 1) (by omega) (by omega) (by omega)
        rw [if_neg (by omega), rd_ok (by omega) (by omega), upm_ne (a := 2) (b := 3) (by decide), wI_ok (x := nuv (m 3) a k * 10) (by omega) (by omega), wI_ok (x := nuv (m 3) a k * 10 + m 3 (a + (k : Int))) (by omega) (by omega), wI_ok (x := nuv (m 3) a k * 10 + m 3 (a + (k : Int)) - 48) (by omega) (by omega), lt_ok, wI_ok (x := a + (k : Int) + 1) (by omega) (by omega), pf_ok, upm_upm, wI_ok (by omega) (by omega)]
        have eh : nuv (m 3) a (k + 1) = nuv (m 3) a k * 10 + (m 3 (a + (k : Int)) - 48) := rfl
        rw [eh] at ih'
        rw [show nuv (m 3) a k * 10 + m 3 (a + (k : Int)) - 48 = nuv (m 3) a k * 10 + (m 3 (a + (k : Int)) - 48) from by omega, show (k : Int) + 1 = ((k + 1 : Nat) : Int) from by omega, show a + (k : Int) + 1 = a + ((k + 1 : Nat) : Int) from by omega]
        exact ih'
  have := Q (q - a).toNat 1000000 0 (by have := h.1; omega) (by omega) (by have := h.2.1; omega)
  rw [show a + ((0 : Nat) : Int) = a from by omega, ← ha, upm_self, ha] at this
  exact this
/-- a token at a, as the class tells it: kind, the bad place, value, end -/
def TC (t : Int → Int) (N a : Int) (gl : Prop) (kd bad val e : Int) : Prop :=
  (a = N ∧ kd = 256) ∨
  (a < N ∧ bL (t a) = false ∧ bD (t a) = false ∧ kd = t a ∧ e = a + 1) ∨
  (a < N ∧ (bL (t a) = true ∨ bD (t a) = true) ∧ gl ∧ kd = 257 ∧ bad = a) ∨
  (a < N ∧ bL (t a) = true ∧ ¬ gl ∧ ∃ q, Rn bL t N a q ∧ ((a + 7 ≤ q ∧ kd = 257 ∧ bad = a + 6) ∨ (q ≤ a + 6 ∧ e = q ∧ val = hcv t a (q - a).toNat * 27 ^ (6 - (q - a).toNat) ∧ knd val kd))) ∨
  (a < N ∧ bD (t a) = true ∧ ¬ gl ∧ ∃ q, Rn bD t N a q ∧ ((a + 5 ≤ q ∧ kd = 257 ∧ bad = a + 4) ∨ (q ≤ a + 4 ∧ e = q ∧ val = nuv t a (q - a).toNat ∧ kd = 259)))
/-- what the scan of token i leaves -/
def SCN (m m' : zM) (i a : Int) (gl : Prop) (kd : Int) : Prop := eqO [2, 4, 5, 6] m m' ∧ (∀ j, j ≠ i → m' 4 j = m 4 j ∧ m' 5 j = m 5 j ∧ m' 6 j = m 6 j) ∧ (m' 2 1 = m 2 1 ∧ m' 2 5 = i) ∧ (m' 4 i = kd ∧ m' 5 i = a) ∧ TC (m 3) (m 2 1) a gl kd (m' 2 6) (m' 6 i) (m' 2 8)
theorem bLD {c : Int} (h : bL c = true) : bD c = false := by
  rw [bL_t] at h
  rw [bD_f]
  omega
theorem scan_C {m : zM} {i a g : Int} (hi : m 2 5 = i) (i0 : 0 ≤ i) (i1 : i < 1601) (ha : m 2 8 = a) (a0 : 0 ≤ a) (aN : a ≤ m 2 1) (hN : m 2 1 ≤ 1600) (ho : RO (m 7)) : wp (Ta_scan g m) (fun r => SCN m r.2 i a (g ≠ 0) r.1) := by
  unfold Ta_scan
  rw [hi, ha, wr_ok i0 i1, upm_ne (a := 5) (b := 2) (by decide), hi, wr_ok i0 i1]
  have E : eqO [2, 4, 5, 6] m (upm (upm m 5 i a) 6 i 0) := (eqO.refl.put (by simp)).put (by simp)
  have J : ∀ j, j ≠ i → upm (upm m 5 i a) 6 i 0 4 j = m 4 j ∧ upm (upm m 5 i a) 6 i 0 5 j = m 5 j ∧ upm (upm m 5 i a) 6 i 0 6 j = m 6 j := fun j hj => ⟨by rw [ru1 (by decide), ru1 (by decide)], by rw [ru1 (by decide), ru2 hj], by rw [ru2 hj, ru1 (by decide)]⟩
  have V5 : upm (upm m 5 i a) 6 i 0 5 i = a := by rw [ru1 (by decide), ru3 rfl rfl]
  have e2 : upm (upm m 5 i a) 6 i 0 2 = m 2 := by rw [upm_ne (by decide), upm_ne (by decide)]
  have e3 : upm (upm m 5 i a) 6 i 0 3 = m 3 := by rw [upm_ne (by decide), upm_ne (by decide)]
  have e7 : upm (upm m 5 i a) 6 i 0 7 = m 7 := by rw [upm_ne (by decide), upm_ne (by decide)]
  generalize upm (upm m 5 i a) 6 i 0 = s at *
  rw [e2, ha]
  have fin : ∀ (s' : zM) (kd : Int), eqO [2, 6] s s' → s' 2 1 = m 2 1 → s' 2 5 = i → (∀ j, j ≠ i → s' 6 j = s 6 j) → TC (m 3) (m 2 1) a (g ≠ 0) kd (s' 2 6) (s' 6 i) (s' 2 8) → wp (wr 4 1601 (s' 2 5) kd s' (fun m12 => some (kd, m12))) (fun r => SCN m r.2 i a (g ≠ 0) r.1) := by
    intro s' kd f1 f2 f3 f4 f5
    rw [f3, wr_ok i0 i1]
    refine wp_some ⟨(E.trans (f1.mono (by simp))).put (by simp), fun j hj => ?_, ?_, ⟨(ru3 rfl rfl : upm s' 4 i kd 4 i = kd), ?_⟩, ?_⟩
    · show upm s' 4 i kd 4 j = _ ∧ upm s' 4 i kd 5 j = _ ∧ upm s' 4 i kd 6 j = _
      rw [ru2 hj, ru1 (by decide), ru1 (by decide), f1 4 (by simp), f1 5 (by simp), f4 j hj]
      exact J j hj
    · show upm s' 4 i kd 2 1 = _ ∧ upm s' 4 i kd 2 5 = _
      rw [ru1 (by decide), ru1 (by decide)]
      exact ⟨f2, f3⟩
    · show upm s' 4 i kd 5 i = _
      rw [ru1 (by decide), f1 5 (by simp)]
      exact V5
    · show TC _ _ _ _ _ (upm s' 4 i kd 2 6) (upm s' 4 i kd 6 i) (upm s' 4 i kd 2 8)
      rw [ru1 (by decide), ru1 (by decide), ru1 (by decide)]
      exact f5
  have gl : ∀ (c1 : a < m 2 1) (cw : bL (m 3 a) = true ∨ bD (m 3 a) = true), wp (Ta_scan_b94 g s) (fun r => SCN m r.2 i a (g ≠ 0) r.1) := by
    intro c1 cw
    unfold Ta_scan_b94
    by_cases cg : g = 0
    · rw [if_pos cg, e2, ha, rd_ok a0 (by omega), e3]
      by_cases cl : bL (m 3 a) = true
      · obtain ⟨q, hq⟩ := Rn.ex (f := bL) (t := m 3) (N := m 2 1) (p := a) (by omega)
        have ha' : s 2 8 = a := by rw [e2]; exact ha
        have nz := hq.nz c1 cl
        rw [isL_C1 cl, Option.bind_some, if_neg (by decide)]
        unfold Ta_scanWord
        rw [word_C (m := s) (a := a) (q := q) (by rw [e2, e3]; exact hq) ha' a0 (by rw [e2]; exact hN)]
        by_cases c7 : a + 7 ≤ q
        · rw [if_pos c7, Option.bind_some]
          dsimp only
          refine fin _ 257 ((eqO.refl.put (by simp)).put (by simp)) (by rw [ru2 (by decide), ru2 (by decide), e2]) (by rw [ru2 (by decide), ru2 (by decide), e2]; exact hi) (fun j hj => by rw [ru1 (by decide), ru1 (by decide)]) (Or.inr (Or.inr (Or.inr (Or.inl ⟨c1, cl, fun t => t cg, q, hq, Or.inl ⟨c7, rfl, ru3 rfl rfl⟩⟩))))
        · rw [if_neg c7, e3]
          unfold Ta_scanWord_b77
          have hb := hcv_b (t := m 3) (a := a) (q - a).toNat (fun j j0 j1 => (hq.in j0 (by omega)).2)
          have pp := p27 (k := (q - a).toNat) (by omega)
          have pq := p27 (k := 6 - (q - a).toNat) (by omega)
          have pm : hcv (m 3) a (q - a).toNat * 27 ^ (6 - (q - a).toNat) < 387420489 := by
            have m1 := Int.mul_lt_mul_of_pos_right hb.2 (show (0 : Int) < 27 ^ (6 - (q - a).toNat) by omega)
            rw [← Int.pow_add, show (q - a).toNat + (6 - (q - a).toNat) = 6 from by omega] at m1
            exact m1
          have ek : q - a = (((q - a).toNat : Nat) : Int) := by omega
          have pok := pad_ok (x := hcv (m 3) a (q - a).toNat) (k := (q - a).toNat) (by omega) hb.1 (by omega)
          rw [← ek] at pok
          rw [pok, Option.bind_some, ru2 (by decide), e2, hi, wr_ok i0 i1]
          obtain ⟨kd, k1, k2⟩ := own_C (m := upm (upm s 2 8 q) 6 i (hcv (m 3) a (q - a).toNat * 27 ^ (6 - (q - a).toNat))) (x := hcv (m 3) a (q - a).toNat * 27 ^ (6 - (q - a).toNat)) (by rw [upm_ne (by decide), upm_ne (by decide), e7]; exact ho)
          rw [k2, Option.bind_some]
          dsimp only
          refine fin _ kd ((eqO.refl.put (by simp)).put (by simp)) (by rw [ru1 (by decide), ru2 (by decide), e2]) (by rw [ru1 (by decide), ru2 (by decide), e2]; exact hi) (fun j hj => by rw [ru2 hj, ru1 (by decide)]) (Or.inr (Or.inr (Or.inr (Or.inl ⟨c1, cl, fun t => t cg, q, hq, Or.inr ⟨by omega, by rw [ru1 (by decide), ru3 rfl rfl], ru3 rfl rfl, by rw [ru3 rfl rfl]; exact k1⟩⟩))))
      · have cd : bD (m 3 a) = true := by
          rcases cw with w | w
          · exact absurd w cl
          · exact w
        obtain ⟨q, hq⟩ := Rn.ex (f := bD) (t := m 3) (N := m 2 1) (p := a) (by omega)
        have ha' : s 2 8 = a := by rw [e2]; exact ha
        rw [isL_C0 (b_tf cl), Option.bind_some, if_pos rfl, num_C (m := s) (a := a) (q := q) (by rw [e2, e3]; exact hq) ha' a0 (by rw [e2]; exact hN) (by rw [e2, hi]; exact i0) (by rw [e2, hi]; exact i1)]
        by_cases c5 : a + 5 ≤ q
        · rw [if_pos c5, Option.bind_some]
          dsimp only
          refine fin _ 257 ((eqO.refl.put (by simp)).put (by simp)) (by rw [ru2 (by decide), ru2 (by decide), e2]) (by rw [ru2 (by decide), ru2 (by decide), e2]; exact hi) (fun j hj => by rw [ru1 (by decide), ru1 (by decide)]) (Or.inr (Or.inr (Or.inr (Or.inr ⟨c1, cd, fun t => t cg, q, hq, Or.inl ⟨c5, rfl, ru3 rfl rfl⟩⟩))))
        · rw [if_neg c5, e3, e2, hi, Option.bind_some]
          dsimp only
          refine fin _ 259 ((eqO.refl.put (by simp)).put (by simp)) (by rw [ru1 (by decide), ru2 (by decide), e2]) (by rw [ru1 (by decide), ru2 (by decide), e2]; exact hi) (fun j hj => by rw [ru2 hj, ru1 (by decide)]) (Or.inr (Or.inr (Or.inr (Or.inr ⟨c1, cd, fun t => t cg, q, hq, Or.inr ⟨by omega, by rw [ru1 (by decide), ru3 rfl rfl], ru3 rfl rfl, rfl⟩⟩))))
    · rw [if_neg cg]
      unfold Ta_badHere
      rw [pf_ok, Option.bind_some, e2, ha]
      dsimp only
      exact fin _ 257 (eqO.refl.put (by simp)) (by rw [ru2 (by decide), e2]) (by rw [ru2 (by decide), e2]; exact hi) (fun j hj => by rw [ru1 (by decide)]) (Or.inr (Or.inr (Or.inl ⟨c1, cw, cg, rfl, ru3 rfl rfl⟩)))
  by_cases c1 : a < m 2 1
  · rw [if_pos c1, rd_ok a0 (by omega), e3]
    by_cases cl : bL (m 3 a) = true
    · rw [isL_C1 cl, Option.bind_some, if_neg (by decide)]
      exact gl c1 (Or.inl cl)
    · rw [isL_C0 (b_tf cl), Option.bind_some, if_pos rfl, rd_ok a0 (by omega), e3]
      by_cases cd : bD (m 3 a) = true
      · rw [isD_C1 cd, Option.bind_some, if_neg (by decide)]
        exact gl c1 (Or.inr cd)
      · rw [isD_C0 (b_tf cd), Option.bind_some, if_pos rfl, rd_ok a0 (by omega), e3, wI_ok (by omega) (by omega), pf_ok]
        exact fin _ (m 3 a) (eqO.refl.put (by simp)) (by rw [ru2 (by decide), e2]) (by rw [ru2 (by decide), e2]; exact hi) (fun j hj => by rw [ru1 (by decide)]) (Or.inr (Or.inl ⟨c1, b_tf cl, b_tf cd, rfl, ru3 rfl rfl⟩))
  · rw [if_neg c1]
    have f := fin s 256 eqO.refl (by rw [e2]) (by rw [e2]; exact hi) (fun j hj => rfl) (Or.inl ⟨by omega, rfl⟩)
    rw [e2] at f
    exact f
