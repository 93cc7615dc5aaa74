/-! the model's search -/
theorem GG.keepB {Z S mM mM' : zM} {bk v : Int} (h : GG Z S mM bk v) (k : eqO [37, 38, 41, 42] mM mM') : GG Z S mM' bk v := by
  have e : ∀ a, a ∉ [37, 38, 41, 42] → mM' a = mM a := k
  obtain ⟨hz, hs, h1, h2, h3⟩ := h
  refine ⟨?_, ?_, by rw [e 0 (by simp)]; exact h1, h2, h3⟩
  · unfold ZM FR at hz ⊢
    rw [e 2 (by simp), e 3 (by simp), e 4 (by simp), e 5 (by simp), e 6 (by simp), e 7 (by simp), e 8 (by simp), e 9 (by simp), e 10 (by simp), e 11 (by simp), e 12 (by simp), e 13 (by simp), e 14 (by simp), e 15 (by simp), e 16 (by simp), e 17 (by simp), e 18 (by simp)]
    exact hz
  · unfold SM at hs ⊢
    rw [e 27 (by simp), e 28 (by simp), e 29 (by simp), e 30 (by simp), e 31 (by simp), e 32 (by simp), e 33 (by simp), e 34 (by simp), e 35 (by simp), e 36 (by simp)]
    exact hs
theorem GG.rg {Z S mM : zM} {bk v : Int} (h : GG Z S mM bk v) : 0 ≤ mM 0 13 ∧ mM 0 13 < 2 ∧ mM 7 (mM 0 13) = Z 0 1 ∧ mM 2 (mM 0 13) = Z 0 0 := by
  have n3 := h.bk
  have e := h.2.2.1
  rw [e]
  exact ⟨by omega, by omega, h.1.2.1.1, h.1.1.1⟩
theorem wp_brFill {Z S mM : zM} {x1 bk : Int} {K : Int → Int → zM → Option (Int × zM)} {Q : Int × zM → Prop} (h : GG Z S mM bk 0) (hK : ∀ m1, eqO [37, 38, 42] mM m1 → (∀ b g : Nat, (b : Int) < Z 0 0 → (g : Int) < Z 0 1 → m1 42 (8 * (b : Int) + (g : Int)) = lbV Z S b g) → wp (K x1 (Z 0 0) m1) Q) : wp (M_bring_L27 K 1000000 x1 (Z 0 0) 0 mM) Q := by
  have n1 := h.nb
  have n2 := h.ng
  refine wp_for (fun n i (s : zM) => M_bring_L27 K n x1 (Z 0 0) i s) (fun i s => eqO [37, 38, 42] mM s ∧ ∀ b g : Nat, (b : Int) < i → (g : Int) < Z 0 1 → s 42 (8 * (b : Int) + (g : Int)) = lbV Z S b g) _ 0 (Z 0 0) ?_ ?_ 1000000 0 mM (by omega) (by omega) (by omega) ⟨eqO.refl, fun b g hb _ => by omega⟩
  · intro n s ⟨i1, i2⟩
    show wp (M_bring_B27 _ _ _ _ _ _) _
    unfold M_bring_B27
    rw [if_neg (by omega)]
    exact hK s i1 i2
  · intro n i s q0 q1 ⟨i1, i2⟩ hr
    show wp (M_bring_B27 _ _ _ _ _ _) _
    unfold M_bring_B27
    rw [if_pos q1]
    refine wp_for (fun k j (s : zM) => M_bring_L35 (fun x1_2 x2_2 x3_2 m3 => M_bring_L27 K n x1_2 x2_2 (wI (x3_2 + 1)) m3) k x1 (Z 0 0) i j s) (fun j s => eqO [37, 38, 42] mM s ∧ (∀ b g : Nat, (b : Int) < i → (g : Int) < Z 0 1 → s 42 (8 * (b : Int) + (g : Int)) = lbV Z S b g) ∧ ∀ g : Nat, (g : Int) < j → s 42 (8 * i + (g : Int)) = lbV Z S i.toNat g) _ 0 (Z 0 1) ?_ ?_ 1000000 0 s (by omega) (by omega) (by omega) ⟨i1, i2, fun g hg => by omega⟩
    · intro k s ⟨j1, j2, j3⟩
      have g' := h.keepB (j1.mono (by simp))
      show wp (M_bring_B35 _ _ _ _ _ _ _) _
      unfold M_bring_B35
      rw [rd_ok g'.rg.1 g'.rg.2.1, g'.rg.2.2.1, if_neg (by omega)]
      show wp (M_bring_L27 K n x1 (Z 0 0) (wI (i + 1)) s) _
      rw [wI_ok (by omega) (by omega)]
      refine hr s ⟨j1, fun b g hb hg => ?_⟩
      by_cases e : (b : Int) < i
      · exact j2 b g e hg
      · rw [show b = i.toNat from by omega]
        have := j3 g hg
        rw [show ((i.toNat : Nat) : Int) = i from by omega]
        exact this
    · intro k j s p0 p1 ⟨j1, j2, j3⟩ hr2
      have g' := h.keepB (j1.mono (by simp))
      have el : lbV Z S i.toNat j.toNat = if feV Z i j = 0 then LMV Z S i j else 0 := by
        rw [lb_in (by omega) (by omega), show ((i.toNat : Nat) : Int) = i from by omega, show ((j.toNat : Nat) : Int) = j from by omega]
      have fin : ∀ s', eqO [37, 38, 42] mM s' → s' 42 = s 42 → ∀ x, x = lbV Z S i.toNat j.toNat → wp (M_bring_L35 (fun x1_2 x2_2 x3_2 m3 => M_bring_L27 K n x1_2 x2_2 (wI (x3_2 + 1)) m3) k x1 (Z 0 0) i (j + 1) (upm s' 42 (8 * i + j) x)) Q := by
        intro s' e1 e2 x hx
        refine hr2 _ ⟨e1.put (by simp), fun b g hb hg => ?_, fun g hg => ?_⟩
        · rw [ru2 (by omega), e2]
          exact j2 b g hb hg
        · by_cases e : g = j.toNat
          · rw [show (g : Int) = j from by omega, ru3 rfl rfl, hx, e]
          · rw [ru2 (by omega), e2]
            exact j3 g (by omega)
      show wp (M_bring_B35 _ _ _ _ _ _ _) _
      unfold M_bring_B35
      rw [rd_ok g'.rg.1 g'.rg.2.1, g'.rg.2.2.1, if_pos p1, MG_awake g' q0 q1, Option.bind_some, wI_ok (x := 8 * i) (by omega) (by omega), wI_ok (x := 8 * i + j) (by omega) (by omega), wI_ok (x := j + 1) (by omega) (by omega)]
      by_cases aw : awV Z S i = true
      · rw [if_pos aw, if_neg n10, MG_open g' p0 p1, Option.bind_some]
        by_cases op : opV Z S i j = true
        · rw [if_pos op, if_neg n10, MG_feared g' p0 p1, Option.bind_some]
          by_cases fe : feV Z i j = 0
          · rw [if_pos fe]
            refine wp_bm (wp_liked g' q0 q1 p0 p1) (fun r ⟨r1, r2⟩ => ?_)
            rw [wr_ok (by omega) (by omega)]
            refine fin _ (j1.trans (r2.mono (by simp))) (r2 42 (by simp)) _ ?_
            rw [el, if_pos fe, r1]
            unfold LMV
            rw [if_pos (by rw [aw, op]; rfl)]
          · rw [if_neg fe, wr_ok (by omega) (by omega)]
            exact fin _ j1 rfl _ (by rw [el, if_neg fe])
        · rw [if_neg op, if_pos p00, wr_ok (by omega) (by omega)]
          refine fin _ j1 rfl _ ?_
          have : LMV Z S i j = 0 := if_neg (by simp [op])
          rw [el, this]
          exact (ite_self 0).symm
      · rw [if_neg aw, if_pos p00, wr_ok (by omega) (by omega)]
        refine fin _ j1 rfl _ ?_
        have : LMV Z S i j = 0 := if_neg (by simp [aw])
        rw [el, this]
        exact (ite_self 0).symm
theorem brG_full {lb : Nat → Nat → Int} {ush : Int} {b s : Nat} {nx : Nat → Int} (h : ¬ (pcN s : Int) < ush) : ∀ g, brG lb ush b nx s g = nx s
  | 0 => rfl
  | g + 1 => by
    have ih := brG_full (lb := lb) (b := b) (nx := nx) h g
    unfold brG
    rw [if_neg (by unfold canV; simp [h])]
    exact ih
theorem or_lt8 {s g : Nat} (hs : s < 256) (hg : g < 8) : s ||| 2 ^ g < 256 := or_lt (ng := 8) hs hg
theorem has2_b {s g : Nat} (hs : s < 256) (hg : g < 8) : M_has2 (s : Int) (g : Int) = some (if s.testBit g then 1 else 0) := by
  rw [M_has2_ok, bit_1 (by omega) (by omega)]
theorem brL182 {Z S m : zM} {bk x1 : Int} {K : Int → Int → Int → Int → zM → Option (Int × zM)} {b s ng nb : Nat} {nx : Nat → Int} (h : GG Z S m bk 0) (hb : b < nb) (hnb : (nb : Int) = Z 0 0) (hng : (ng : Int) = Z 0 1) (hs : s < 256) (hl : ∀ b g : Nat, (b : Int) < Z 0 0 → (g : Int) < Z 0 1 → m 42 (8 * (b : Int) + (g : Int)) = lbV Z S b g) (hx : ∀ s : Nat, s < 256 → m 41 (256 * ((b : Int) + 1) + (s : Int)) = nx s) (hn : ∀ s, 0 ≤ nx s ∧ nx s ≤ 100000) : ∀ (d n g : Nat), g + d = ng → d < n → M_bring_L182 K n x1 (b : Int) (s : Int) (brG (lbV Z S) (Z 0 14) b nx s g) (g : Int) m = K x1 (b : Int) (s : Int) (brG (lbV Z S) (Z 0 14) b nx s ng) m := by
  have n1 := h.nb
  have n2 := h.ng
  intro d
  induction d with
  | zero =>
    intro n g hg hn'
    obtain ⟨n, rfl⟩ : ∃ k, n = k + 1 := ⟨n - 1, by omega⟩
    have : g = ng := by omega
    subst this
    show M_bring_B182 _ _ _ _ _ _ _ _ = _
    unfold M_bring_B182
    rw [rd_ok h.rg.1 h.rg.2.1, h.rg.2.2.1, if_neg (by omega)]
  | succ d ih =>
    intro n g hg hn'
    obtain ⟨n, rfl⟩ : ∃ k, n = k + 1 := ⟨n - 1, by omega⟩
    have i1 := ih n (g + 1) (by omega) (by omega)
    have eq1 : brG (lbV Z S) (Z 0 14) b nx s (g + 1) = if canV (lbV Z S) (Z 0 14) b g s = true then max (brG (lbV Z S) (Z 0 14) b nx s g) (lbV Z S b g + nx (s ||| 2 ^ g)) else brG (lbV Z S) (Z 0 14) b nx s g := rfl
    rw [eq1, show ((g + 1 : Nat) : Int) = (g : Int) + 1 from by omega] at i1
    have lbb := lb_b h b g (by omega)
    have o8 := or_lt8 hs (show g < 8 by omega)
    have nn := hn (s ||| 2 ^ g)
    show M_bring_B182 _ _ _ _ _ _ _ _ = _
    unfold M_bring_B182
    rw [rd_ok h.rg.1 h.rg.2.1, h.rg.2.2.1, if_pos (by omega), bitsM s hs, Option.bind_some, MG_told h (w := 0) (by omega) (by omega), Option.bind_some, show (14 : Int) + 0 = 14 from rfl]
    by_cases c1 : (pcN s : Int) < Z 0 14
    · rw [if_pos c1, has2_b hs (by omega), Option.bind_some, wI_ok (x := 8 * (b : Int)) (by omega) (by omega), wI_ok (x := 8 * (b : Int) + (g : Int)) (by omega) (by omega), wI_ok (x := (b : Int) + 1) (by omega) (by omega), wI_ok (x := 256 * ((b : Int) + 1)) (by omega) (by omega), slI_1 (by omega), orI_nat (by omega) (by have := Nat.pow_lt_pow_right (show 1 < 2 by decide) (show g < 8 by omega); omega), wI_ok (x := 256 * ((b : Int) + 1) + ((s ||| 2 ^ g : Nat) : Int)) (by omega) (by omega), wI_ok (x := (g : Int) + 1) (by omega) (by omega)]
      by_cases c2 : s.testBit g = true
      · rw [if_pos c2, if_neg n10]
        rw [if_neg (by unfold canV; simp [c2])] at i1
        exact i1
      · rw [if_neg c2, if_pos p00, rd_ok (by omega) (by omega), hl b g (by omega) (by omega)]
        by_cases c3 : lbV Z S b g = 0
        · rw [if_pos c3]
          rw [if_neg (by unfold canV; simp [c3])] at i1
          exact i1
        · rw [if_neg c3, rd_ok (by omega) (by omega), hl b g (by omega) (by omega), rd_ok (by omega) (by omega), hx _ o8, lt_ok, wI_ok (x := lbV Z S b g + nx (s ||| 2 ^ g)) (by omega) (by omega)]
          rw [if_pos (by unfold canV; simp [c1, c2]; omega)] at i1
          by_cases c4 : brG (lbV Z S) (Z 0 14) b nx s g < lbV Z S b g + nx (s ||| 2 ^ g)
          · rw [if_pos c4]
            rw [Int.max_eq_right (by omega)] at i1
            exact i1
          · rw [if_neg c4]
            rw [Int.max_eq_left (by omega)] at i1
            exact i1
    · rw [if_neg c1, brG_full c1, brG_full c1]
