/-! the model's table, its answer -/
theorem wp_eqr {α : Type} {p q : Option α} {Q : α → Prop} (e : p = q) (h : wp q Q) : wp p Q := e ▸ h
theorem wp_brTab {Z S mM : zM} {bk x1 : Int} {K : Int → zM → Option (Int × zM)} {Q : Int × zM → Prop} {ng nb : Nat} (h : GG Z S mM bk 0) (hnb : (nb : Int) = Z 0 0) (hng : (ng : Int) = Z 0 1) (hl : ∀ b g : Nat, (b : Int) < Z 0 0 → (g : Int) < Z 0 1 → mM 42 (8 * (b : Int) + (g : Int)) = lbV Z S b g) (h0 : ∀ s : Nat, s < 256 → mM 41 (256 * (nb : Int) + (s : Int)) = 0) (hK : ∀ m1, eqO [41] mM m1 → (∀ b : Nat, b ≤ nb → ∀ s : Nat, s < 256 → m1 41 (256 * (b : Int) + (s : Int)) = brV (lbV Z S) (Z 0 14) ng nb (nb - b) s) → wp (K x1 m1) Q) : wp (M_bring_L147 K 1000000 x1 ((nb : Int) - 1) mM) Q := by
  have n1 := h.nb
  have n2 := h.ng
  have bb := fun r s => brV_b (lb := lbV Z S) (ush := Z 0 14) (ng := ng) (nb := nb) (by omega) (lb_b h) r s
  rw [show (nb : Int) - 1 = (nb : Int) - 1 - 0 from by omega]
  refine wp_for (fun n r (s : zM) => M_bring_L147 K n x1 ((nb : Int) - 1 - r) s) (fun r s => eqO [41] mM s ∧ ∀ b : Nat, b ≤ nb → (nb : Int) - b ≤ r → ∀ q : Nat, q < 256 → s 41 (256 * (b : Int) + (q : Int)) = brV (lbV Z S) (Z 0 14) ng nb (nb - b) q) _ 0 (nb : Int) ?_ ?_ 1000000 0 mM (by omega) (by omega) (by omega) ⟨eqO.refl, fun b hb hbr q hq => ?_⟩
  · intro n s ⟨j1, j2⟩
    show wp (M_bring_B147 _ _ _ _ _) _
    unfold M_bring_B147
    rw [if_pos (by omega)]
    exact hK s j1 (fun b hb q hq => j2 b hb (by omega) q hq)
  · intro n r s q0 q1 ⟨j1, j2⟩ hr
    show wp (M_bring_B147 _ _ _ _ _) _
    unfold M_bring_B147
    rw [if_neg (by omega)]
    have eb : (((nb - 1 - r.toNat : Nat)) : Int) = (nb : Int) - 1 - r := by omega
    refine wp_for (fun k j (s : zM) => M_bring_L154 (fun x1_2 x3_2 m3 => M_bring_L147 K n x1_2 (wI (x3_2 + (-1))) m3) k x1 ((nb : Int) - 1 - r) j s) (fun j s => eqO [41] mM s ∧ (∀ b : Nat, b ≤ nb → (nb : Int) - b ≤ r → ∀ q : Nat, q < 256 → s 41 (256 * (b : Int) + (q : Int)) = brV (lbV Z S) (Z 0 14) ng nb (nb - b) q) ∧ ∀ q : Nat, (q : Int) < j → s 41 (256 * ((nb : Int) - 1 - r) + (q : Int)) = brV (lbV Z S) (Z 0 14) ng nb (r.toNat + 1) q) _ 0 256 ?_ ?_ 1000000 0 s (by omega) (by omega) (by omega) ⟨j1, j2, fun q hq => by omega⟩
    · intro k s ⟨k1, k2, k3⟩
      show wp (M_bring_B154 _ _ _ _ _ _) _
      unfold M_bring_B154
      rw [if_neg (by omega)]
      show wp (M_bring_L147 K n x1 (wI ((nb : Int) - 1 - r + (-1))) s) _
      rw [wI_ok (by omega) (by omega), show (nb : Int) - 1 - r + -1 = (nb : Int) - 1 - (r + 1) from by omega]
      refine hr s ⟨k1, fun b hb hbr q hq => ?_⟩
      by_cases e : (nb : Int) - b ≤ r
      · exact k2 b hb e q hq
      · have := k3 q (by omega)
        rw [show (nb : Int) - 1 - r = (b : Int) from by omega] at this
        rw [this, show nb - b = r.toNat + 1 from by omega]
    · intro k j s p0 p1 ⟨k1, k2, k3⟩ hr2
      have ej : ((j.toNat : Nat) : Int) = j := by omega
      have g' := h.keepB (k1.mono (by simp))
      have nx : ∀ q : Nat, q < 256 → s 41 (256 * (((nb - 1 - r.toNat : Nat) : Int) + 1) + (q : Int)) = brV (lbV Z S) (Z 0 14) ng nb r.toNat q := fun q hq => by
        have := k2 (nb - r.toNat) (by omega) (by omega) q hq
        rw [show nb - (nb - r.toNat) = r.toNat from by omega] at this
        rw [← this]
        congr 1
        omega
      have mc := brL182 (x1 := x1) (b := nb - 1 - r.toNat) (s := j.toNat) (ng := ng) (nb := nb) (K := fun x1_3 x3_3 x4_3 x5_3 m4 => M_bring_b294 (fun x1_2 x3_2 m3 => M_bring_L147 K n x1_2 (wI (x3_2 + (-1))) m3) (M_bring_L154 (fun x1_2 x3_2 m3 => M_bring_L147 K n x1_2 (wI (x3_2 + (-1))) m3) k) x1_3 x3_3 x4_3 x5_3 m4) g' (by omega) hnb hng (by omega) (fun b g hb hg => by rw [k1 42 (by simp)]; exact hl b g hb hg) nx (fun q => by have := bb r.toNat q; omega) ng 1000000 0 (by omega) (by omega)
      rw [eb, ej] at mc
      show wp (M_bring_B154 _ _ _ _ _ _) _
      unfold M_bring_B154
      have y0 := nx j.toNat (by omega)
      rw [eb, ej] at y0
      rw [if_pos p1, wI_ok (x := (nb : Int) - 1 - r + 1) (by omega) (by omega), wI_ok (x := 256 * ((nb : Int) - 1 - r + 1)) (by omega) (by omega), wI_ok (x := 256 * ((nb : Int) - 1 - r + 1) + j) (by omega) (by omega), rd_ok (by omega) (by omega), y0]
      refine wp_eqr mc ?_
      show wp (M_bring_b294 _ _ _ _ _ _ _) _
      unfold M_bring_b294
      rw [wI_ok (x := 256 * ((nb : Int) - 1 - r)) (by omega) (by omega), wI_ok (x := 256 * ((nb : Int) - 1 - r) + j) (by omega) (by omega), wI_ok (x := j + 1) (by omega) (by omega), wr_ok (by omega) (by omega)]
      refine hr2 _ ⟨k1.put (by simp), fun b hb hbr q hq => by rw [ru2 (by omega)]; exact k2 b hb hbr q hq, fun q hq => ?_⟩
      by_cases e : q = j.toNat
      · subst e
        rw [ej, ru3 rfl rfl]
        show _ = brG (lbV Z S) (Z 0 14) (nb - (r.toNat + 1)) _ _ _
        rw [show nb - (r.toNat + 1) = nb - 1 - r.toNat from by omega]
      · rw [ru2 (by omega)]
        exact k3 q (by omega)
  · have : b = nb := by omega
    subst this
    rw [h0 q hq, Nat.sub_self]
    rfl
/-- is it the best for this one -/
theorem isBest_ok {Z S m : zM} {bk : Int} {b g s ng nb : Nat} (h : GG Z S m bk 0) (hb : b < nb) (hnb : (nb : Int) = Z 0 0) (hg : g < ng) (hng : (ng : Int) = Z 0 1) (hs : s < 256) (hl : ∀ b g : Nat, (b : Int) < Z 0 0 → (g : Int) < Z 0 1 → m 42 (8 * (b : Int) + (g : Int)) = lbV Z S b g) (hx : ∀ b : Nat, b ≤ nb → ∀ s : Nat, s < 256 → m 41 (256 * (b : Int) + (s : Int)) = brV (lbV Z S) (Z 0 14) ng nb (nb - b) s) : M_isBest (b : Int) (g : Int) (s : Int) m = some (if canV (lbV Z S) (Z 0 14) b g s = true ∧ lbV Z S b g + brV (lbV Z S) (Z 0 14) ng nb (nb - (b + 1)) (s ||| 2 ^ g) = brV (lbV Z S) (Z 0 14) ng nb (nb - b) s then 1 else 0) := by
  have n1 := h.nb
  have n2 := h.ng
  have lbb := lb_b h b g (by omega)
  have o8 := or_lt8 hs (show g < 8 by omega)
  have bb := brV_b (lb := lbV Z S) (ush := Z 0 14) (ng := ng) (nb := nb) (by omega) (lb_b h) (nb - (b + 1)) (s ||| 2 ^ g)
  have x1 := hx (b + 1) (by omega) _ o8
  rw [show ((b + 1 : Nat) : Int) = (b : Int) + 1 from by omega] at x1
  unfold M_isBest
  rw [has2_b hs (by omega), Option.bind_some, wI_ok (x := 8 * (b : Int)) (by omega) (by omega), wI_ok (x := 8 * (b : Int) + (g : Int)) (by omega) (by omega), wI_ok (x := (b : Int) + 1) (by omega) (by omega), wI_ok (x := 256 * ((b : Int) + 1)) (by omega) (by omega), slI_1 (by omega), orI_nat (by omega) (by have := Nat.pow_lt_pow_right (show 1 < 2 by decide) (show g < 8 by omega); omega), wI_ok (x := 256 * ((b : Int) + 1) + ((s ||| 2 ^ g : Nat) : Int)) (by omega) (by omega), wI_ok (x := 256 * (b : Int)) (by omega) (by omega), wI_ok (x := 256 * (b : Int) + (s : Int)) (by omega) (by omega)]
  by_cases c2 : s.testBit g = true
  · rw [if_pos c2, if_neg n10, if_neg (by unfold canV; simp [c2])]
  · rw [if_neg c2, if_pos p00, rd_ok (by omega) (by omega), hl b g (by omega) (by omega)]
    by_cases c3 : lbV Z S b g = 0
    · rw [if_pos c3, if_neg (by unfold canV; simp [c3])]
    · rw [if_neg c3, bitsM s hs, Option.bind_some, MG_told h (w := 0) (by omega) (by omega), Option.bind_some, show (14 : Int) + 0 = 14 from rfl]
      by_cases c1 : (pcN s : Int) < Z 0 14
      · have cc : canV (lbV Z S) (Z 0 14) b g s = true := by unfold canV; simp [c1, c2]; omega
        rw [if_pos c1, rd_ok (by omega) (by omega), hl b g (by omega) (by omega), rd_ok (by omega) (by omega), x1, rd_ok (by omega) (by omega), hx b (by omega) s hs, wI_ok (by omega) (by omega)]
        by_cases e : lbV Z S b g + brV (lbV Z S) (Z 0 14) ng nb (nb - (b + 1)) (s ||| 2 ^ g) = brV (lbV Z S) (Z 0 14) ng nb (nb - b) s
        · rw [if_pos e, if_pos ⟨cc, e⟩]
        · rw [if_neg e, if_neg (fun t => e t.2)]
      · rw [if_neg c1, if_neg (by unfold canV; simp [c1])]
def ordV (ng v : Int) : Int := if v = -1 then ng else v
theorem brL347 {Z S m : zM} {bk x1 : Int} {K : Int → Int → Int → Int → zM → Option (Int × zM)} {b s ng nb : Nat} (h : GG Z S m bk 0) (hb : b < nb) (hnb : (nb : Int) = Z 0 0) (hng : (ng : Int) = Z 0 1) (hs : s < 256) (hl : ∀ b g : Nat, (b : Int) < Z 0 0 → (g : Int) < Z 0 1 → m 42 (8 * (b : Int) + (g : Int)) = lbV Z S b g) (hx : ∀ b : Nat, b ≤ nb → ∀ s : Nat, s < 256 → m 41 (256 * (b : Int) + (s : Int)) = brV (lbV Z S) (Z 0 14) ng nb (nb - b) s) : ∀ (d n k g : Nat), g + d = ng → d < n → d < k → M_bring_L347 K n x1 (s : Int) (b : Int) (g : Int) m = K x1 (s : Int) (b : Int) (ordV (ng : Int) (bstV (lbV Z S) (Z 0 14) ng nb b s k g)) m := by
  have n2 := h.ng
  intro d
  induction d with
  | zero =>
    intro n k g hg hn' hk
    obtain ⟨n, rfl⟩ : ∃ k, n = k + 1 := ⟨n - 1, by omega⟩
    obtain ⟨k, rfl⟩ : ∃ q, k = q + 1 := ⟨k - 1, by omega⟩
    have : g = ng := by omega
    subst this
    show M_bring_B347 _ _ _ _ _ _ _ = _
    unfold M_bring_B347
    rw [rd_ok h.rg.1 h.rg.2.1, h.rg.2.2.1, if_neg (by omega)]
    have : bstV (lbV Z S) (Z 0 14) g nb b s (k + 1) g = -1 := if_neg (by omega)
    rw [this]
    rfl
  | succ d ih =>
    intro n k g hg hn' hk
    obtain ⟨n, rfl⟩ : ∃ k, n = k + 1 := ⟨n - 1, by omega⟩
    obtain ⟨k, rfl⟩ : ∃ q, k = q + 1 := ⟨k - 1, by omega⟩
    have i1 := ih n k (g + 1) (by omega) (by omega) (by omega)
    rw [show ((g + 1 : Nat) : Int) = (g : Int) + 1 from by omega] at i1
    have eB : bstV (lbV Z S) (Z 0 14) ng nb b s (k + 1) g = if canV (lbV Z S) (Z 0 14) b g s = true ∧ lbV Z S b g + brV (lbV Z S) (Z 0 14) ng nb (nb - (b + 1)) (s ||| 2 ^ g) = brV (lbV Z S) (Z 0 14) ng nb (nb - b) s then (g : Int) else bstV (lbV Z S) (Z 0 14) ng nb b s k (g + 1) := by
      show (if g < ng then _ else _) = _
      rw [if_pos (by omega)]
    show M_bring_B347 _ _ _ _ _ _ _ = _
    unfold M_bring_B347
    rw [rd_ok h.rg.1 h.rg.2.1, h.rg.2.2.1, if_pos (by omega), isBest_ok h hb hnb (by omega) hng hs hl hx, Option.bind_some, wI_ok (x := (g : Int) + 1) (by omega) (by omega), eB]
    by_cases c : canV (lbV Z S) (Z 0 14) b g s = true ∧ lbV Z S b g + brV (lbV Z S) (Z 0 14) ng nb (nb - (b + 1)) (s ||| 2 ^ g) = brV (lbV Z S) (Z 0 14) ng nb (nb - b) s
    · rw [if_pos c, if_pos c, if_neg n10]
      unfold ordV
      rw [if_neg (by omega)]
    · rw [if_neg c, if_neg c, if_pos p00]
      exact i1
theorem brL338 {Z S m : zM} {bk : Int} {x : Nat} {K : Int → zM → Option (Int × zM)} {ng nb : Nat} (h : GG Z S m bk 0) (hx1 : x < nb) (hnb : (nb : Int) = Z 0 0) (hng : (ng : Int) = Z 0 1) (hl : ∀ b g : Nat, (b : Int) < Z 0 0 → (g : Int) < Z 0 1 → m 42 (8 * (b : Int) + (g : Int)) = lbV Z S b g) (hx : ∀ b : Nat, b ≤ nb → ∀ s : Nat, s < 256 → m 41 (256 * (b : Int) + (s : Int)) = brV (lbV Z S) (Z 0 14) ng nb (nb - b) s) : ∀ (d n b : Nat), b + d = x → d < n → M_bring_L338 K n (x : Int) (sqV (lbV Z S) (Z 0 14) ng nb b : Int) (b : Int) m = K (ordV (ng : Int) (bstV (lbV Z S) (Z 0 14) ng nb x (sqV (lbV Z S) (Z 0 14) ng nb x) 9 0)) m := by
  have n1 := h.nb
  have n2 := h.ng
  have p := p256 (ng := ng) (by omega)
  intro d
  induction d with
  | zero =>
    intro n b hb hn
    obtain ⟨n, rfl⟩ : ∃ k, n = k + 1 := ⟨n - 1, by omega⟩
    have : b = x := by omega
    subst this
    have sq := sq_b (lb := lbV Z S) (ush := Z 0 14) (ng := ng) (nb := nb) b
    show M_bring_B338 _ _ _ _ _ _ = _
    unfold M_bring_B338
    have e := brL347 (x1 := (b : Int)) (K := fun x1_2 x3_2 x4_2 x5_2 m3 => M_bring_b379 K (M_bring_L338 K n) x1_2 x3_2 x4_2 x5_2 m3) h hx1 hnb hng (show sqV (lbV Z S) (Z 0 14) ng nb b < 256 by omega) hl hx ng 1000000 9 0 (by omega) (by omega) (by omega)
    rw [if_neg (by omega)]
    refine Eq.trans e ?_
    show M_bring_b379 _ _ _ _ _ _ _ = _
    unfold M_bring_b379
    rw [if_pos rfl]
  | succ d ih =>
    intro n b hb hn
    obtain ⟨n, rfl⟩ : ∃ k, n = k + 1 := ⟨n - 1, by omega⟩
    have i1 := ih n (b + 1) (by omega) (by omega)
    rw [show ((b + 1 : Nat) : Int) = (b : Int) + 1 from by omega] at i1
    have sq := sq_b (lb := lbV Z S) (ush := Z 0 14) (ng := ng) (nb := nb) b
    have eS : sqV (lbV Z S) (Z 0 14) ng nb (b + 1) = if bstV (lbV Z S) (Z 0 14) ng nb b (sqV (lbV Z S) (Z 0 14) ng nb b) 9 0 = -1 then sqV (lbV Z S) (Z 0 14) ng nb b else sqV (lbV Z S) (Z 0 14) ng nb b ||| 2 ^ (bstV (lbV Z S) (Z 0 14) ng nb b (sqV (lbV Z S) (Z 0 14) ng nb b) 9 0).toNat := rfl
    have bd := bst_b (lb := lbV Z S) (ush := Z 0 14) (ng := ng) (nb := nb) (b := b) (s := sqV (lbV Z S) (Z 0 14) ng nb b) 9 0
    show M_bring_B338 _ _ _ _ _ _ = _
    unfold M_bring_B338
    have e := brL347 (x1 := (x : Int)) (K := fun x1_2 x3_2 x4_2 x5_2 m3 => M_bring_b379 K (M_bring_L338 K n) x1_2 x3_2 x4_2 x5_2 m3) h (show b < nb by omega) hnb hng (show sqV (lbV Z S) (Z 0 14) ng nb b < 256 by omega) hl hx ng 1000000 9 0 (by omega) (by omega) (by omega)
    rw [if_neg (by omega)]
    refine Eq.trans e ?_
    show M_bring_b379 _ _ _ _ _ _ _ = _
    unfold M_bring_b379
    rw [if_neg (by omega), rd_ok h.rg.1 h.rg.2.1, h.rg.2.2.1, wI_ok (x := (b : Int) + 1) (by omega) (by omega)]
    rw [eS] at i1
    generalize bstV (lbV Z S) (Z 0 14) ng nb b (sqV (lbV Z S) (Z 0 14) ng nb b) 9 0 = v at *
    unfold ordV
    by_cases c : v = -1
    · rw [if_pos c] at i1
      rw [if_pos c, if_pos hng, show (0 : Int) = ((0 : Nat) : Int) from rfl, orI_nat (by omega) (by omega), Nat.or_zero]
      exact i1
    · rw [if_neg c] at i1
      have pv := Nat.pow_lt_pow_right (show 1 < 2 by decide) (show v.toNat < 8 by omega)
      have ev : slI 1 v = ((2 ^ v.toNat : Nat) : Int) := by rw [← slI_1 (by omega)]; congr 1; omega
      rw [if_neg c, if_neg (by omega), ev, lt_ok, orI_nat (by omega) (by omega)]
      exact i1
theorem wp_brM {Z S mM : zM} {bk x : Int} (h : GG Z S mM bk 0) (hx : x = -1 ∨ (0 ≤ x ∧ x < Z 0 0)) : wp (M_bring_b15 x mM) (fun r => r.1 = (if x = -1 then brV (lbV Z S) (Z 0 14) (Z 0 1).toNat (Z 0 0).toNat (Z 0 0).toNat 0 else bstV (lbV Z S) (Z 0 14) (Z 0 1).toNat (Z 0 0).toNat x.toNat (sqV (lbV Z S) (Z 0 14) (Z 0 1).toNat (Z 0 0).toNat x.toNat) 9 0) ∧ eqO [37, 38, 41, 42] mM r.2) := by
  have n1 := h.nb
  have n2 := h.ng
  have enb : (((Z 0 0).toNat : Nat) : Int) = Z 0 0 := by omega
  have eng : (((Z 0 1).toNat : Nat) : Int) = Z 0 1 := by omega
  unfold M_bring_b15
  rw [rd_ok h.rg.1 h.rg.2.1, h.rg.2.2.2]
  refine wp_brFill h (fun m1 k1 l1 => ?_)
  have g1 := h.keepB (k1.mono (by simp))
  refine wp_for (fun n i (s : zM) => M_bring_L117 _ n x (Z 0 0) i s) (fun i s => eqO [41] m1 s ∧ ∀ q : Nat, (q : Int) < i → s 41 (256 * Z 0 0 + (q : Int)) = 0) _ 0 256 ?_ ?_ 1000000 0 m1 (by omega) (by omega) (by omega) ⟨eqO.refl, fun q hq => by omega⟩
  · intro n s ⟨i1, i2⟩
    show wp (M_bring_B117 _ _ _ _ _ _) _
    unfold M_bring_B117
    rw [if_neg (by omega)]
    show wp (lt (wI (Z 0 0 - 1)) _) _
    rw [wI_ok (x := Z 0 0 - 1) (by omega) (by omega), lt_ok]
    have g2 := g1.keepB (i1.mono (by simp))
    have l2 : ∀ b g : Nat, (b : Int) < Z 0 0 → (g : Int) < Z 0 1 → s 42 (8 * (b : Int) + (g : Int)) = lbV Z S b g := fun b g hb hg => by rw [i1 42 (by simp)]; exact l1 b g hb hg
    have st := fun K hK => wp_brTab (x1 := x) (K := K) (Q := fun r => r.1 = (if x = -1 then brV (lbV Z S) (Z 0 14) (Z 0 1).toNat (Z 0 0).toNat (Z 0 0).toNat 0 else bstV (lbV Z S) (Z 0 14) (Z 0 1).toNat (Z 0 0).toNat x.toNat (sqV (lbV Z S) (Z 0 14) (Z 0 1).toNat (Z 0 0).toNat x.toNat) 9 0) ∧ eqO [37, 38, 41, 42] mM r.2) g2 enb eng l2 (fun q hq => by rw [enb]; exact i2 q (by omega)) hK
    rw [enb] at st
    refine st _ (fun m3 k3 t3 => ?_)
    have kk : eqO [37, 38, 41, 42] mM m3 := ((k1.mono (by simp)).trans (i1.mono (by simp))).trans (k3.mono (by simp))
    have g3 := h.keepB kk
    have l3 : ∀ b g : Nat, (b : Int) < Z 0 0 → (g : Int) < Z 0 1 → m3 42 (8 * (b : Int) + (g : Int)) = lbV Z S b g := fun b g hb hg => by rw [k3 42 (by simp)]; exact l2 b g hb hg
    show wp (if x = -1 then _ else _) _
    by_cases c : x = -1
    · rw [if_pos c, rd_ok (by decide) (by decide)]
      refine wp_some ⟨?_, kk⟩
      rw [if_pos c]
      exact t3 0 (by omega) 0 (by omega)
    · have ex : ((x.toNat : Nat) : Int) = x := by omega
      have e := fun K => brL338 (K := K) (x := x.toNat) g3 (show x.toNat < (Z 0 0).toNat by omega) enb eng l3 t3 x.toNat 1000000 0 (by omega) (by omega)
      rw [ex] at e
      rw [if_neg c]
      refine wp_eqr (e _) ?_
      show wp (rd 7 2 (m3 0 13) m3 _) _
      rw [rd_ok g3.rg.1 g3.rg.2.1, g3.rg.2.2.1, eng]
      have bd := bst_b (lb := lbV Z S) (ush := Z 0 14) (ng := (Z 0 1).toNat) (nb := (Z 0 0).toNat) (b := x.toNat) (s := sqV (lbV Z S) (Z 0 14) (Z 0 1).toNat (Z 0 0).toNat x.toNat) 9 0
      rw [if_neg c]
      generalize bstV (lbV Z S) (Z 0 14) (Z 0 1).toNat (Z 0 0).toNat x.toNat (sqV (lbV Z S) (Z 0 14) (Z 0 1).toNat (Z 0 0).toNat x.toNat) 9 0 = v at *
      unfold ordV
      by_cases d : v = -1
      · rw [if_pos d, if_pos rfl]
        exact wp_some ⟨d.symm, kk⟩
      · rw [if_neg d, if_neg (by omega)]
        exact wp_some ⟨rfl, kk⟩
  · intro n i s q0 q1 ⟨i1, i2⟩ hr
    show wp (M_bring_B117 _ _ _ _ _ _) _
    unfold M_bring_B117
    rw [if_pos q1, wI_ok (x := 256 * Z 0 0) (by omega) (by omega), wI_ok (x := 256 * Z 0 0 + i) (by omega) (by omega), wI_ok (x := i + 1) (by omega) (by omega), wr_ok (by omega) (by omega)]
    refine hr _ ⟨i1.put (by simp), fun q hq => ?_⟩
    by_cases e : (q : Int) = i
    · rw [e, ru3 rfl rfl]
    · rw [ru2 (by omega)]
      exact i2 q (by omega)
theorem rs_bring {mC mM : zM} {x : Int} (h : Rel mC mM) : wp (C_bring x mC) (fun a => wp (M_bring x mM) (fun b => a.1 = b.1 ∧ Rel a.2 b.2)) := by
  obtain ⟨z, Z, S, bk, hr⟩ := h.toZ
  obtain ⟨hz, h12, hs, hg, hu, hZ, hS⟩ := id hr
  have n1 := hg.nb
  have n2 := hg.ng
  have enb : (((Z 0 0).toNat : Nat) : Int) = Z 0 0 := by omega
  have eng : (((Z 0 1).toNat : Nat) : Int) = Z 0 1 := by omega
  have key : x = -1 ∨ (0 ≤ x ∧ x < Z 0 0) → wp (C_bring_b18 x mC) (fun a => wp (M_bring_b15 x mM) (fun b => a.1 = b.1 ∧ Rel a.2 b.2)) := by
    intro hx
    unfold C_bring_b18
    rw [mro_ok h12 (kdz hz)]
    refine wp_bm (wp_weigh hg hZ hS (by omega) (by omega) (by omega)) (fun m1 ⟨k1, w1⟩ => ?_)
    have bc : brC Z S m1 z := ⟨by rw [← hZ]; exact zv_eq fun q _ _ => k1 _ (by simp; omega), fun b g hb hg' => w1 b g (by omega) hb (by omega) hg'⟩
    rw [mro_ok (by rw [k1 0 (by simp)]; exact h12) (kdz hz)]
    refine wp_bm (wp_brFind hg hz bc enb eng) (fun m2 ⟨k2, v2, f2⟩ => ?_)
    have kk : eqO [26, 29, 30, 31, 33, 34, 35, 36, 37, 38, 39, z + 13] mC m2 := (k1.mono (by simp)).trans (k2.mono (by simp))
    have fin : ∀ y, y = (if x = -1 then brV (lbV Z S) (Z 0 14) (Z 0 1).toNat (Z 0 0).toNat (Z 0 0).toNat 0 else bstV (lbV Z S) (Z 0 14) (Z 0 1).toNat (Z 0 0).toNat x.toNat (sqV (lbV Z S) (Z 0 14) (Z 0 1).toNat (Z 0 0).toNat x.toNat) 9 0) → wp (some (y, m2)) (fun a => wp (M_bring_b15 x mM) (fun b => a.1 = b.1 ∧ Rel a.2 b.2)) := by
      intro y hy
      refine wp_some (wp_mono (wp_brM hg hx) (fun r ⟨r1, r2⟩ => ⟨?_, ?_⟩))
      · rw [r1]; exact hy
      · subst hZ hS
        have hb := hg.2.2.1
        subst hb
        exact Rel.quietM hz hs hg hu kk (by simp) r2 (by simp)
    by_cases c : x = -1
    · rw [if_pos c]
      exact fin _ (by rw [if_pos c]; exact v2)
    · rw [if_neg c, rd_ok (by omega) (by omega)]
      have := f2 x.toNat (by omega)
      rw [show ((x.toNat : Nat) : Int) = x from by omega] at this
      exact fin _ (by rw [if_neg c]; exact this)
  unfold C_bring M_bring
  by_cases c : x = -1
  · rw [if_pos c, if_pos c]
    exact key (Or.inl c)
  · rw [if_neg c, if_neg c, mro_ok h12 (kdz hz), isBeast_ok hZ, MG_beast hg, Option.bind_some, Option.bind_some]
    by_cases d : 0 ≤ x ∧ x < Z 0 0
    · rw [if_pos d, if_neg n10]
      exact key (Or.inr d)
    · rw [if_neg d, if_pos p00]
      exact wp_some (wp_some ⟨rfl, h⟩)
