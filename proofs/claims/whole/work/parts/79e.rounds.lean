/-! rounds, the model's: all of them, and both -/
theorem wp_leaveM {Z S m : zM} {L : Nat} {bk x1 x2 r : Int} {K : Int → Int → Int → Int → Int → zM → Option (Int × zM)} {Q : Int × zM → Prop} (hm : roM Z S m bk L) (hp : poV Z S m 47 L) (hK : ∀ m1, eqO [48, 49] m m1 → (∀ b : Nat, (b : Int) < Z 0 0 → m1 48 b = gtV Z S L b (hdV Z S (pV (lhV Z S) (Z 0 0).toNat L b)) (m 48 b) ∧ m1 49 b = gtV Z S L b r (m 49 b)) → wp (K x1 x2 (L : Int) r (otV L (pV (lhV Z S) (Z 0 0).toNat L) (Z 0 0).toNat : Int) m1) Q) : wp (M_round_L178 K 1000000 x1 x2 (L : Int) r 0 0 m) Q := by
  have n1 := hm.1.nb
  have l64 := hm.2.1
  have hL := hm.2.2.1
  refine wp_for (fun n i (s : Int × zM) => M_round_L178 K n x1 x2 (L : Int) r s.1 i s.2) (fun i s => s.1 = (otV L (pV (lhV Z S) (Z 0 0).toNat L) i.toNat : Int) ∧ eqO [48, 49] m s.2 ∧ (∀ b : Nat, (b : Int) < i → s.2 48 b = gtV Z S L b (hdV Z S (pV (lhV Z S) (Z 0 0).toNat L b)) (m 48 b) ∧ s.2 49 b = gtV Z S L b r (m 49 b)) ∧ ∀ b : Nat, i ≤ (b : Int) → s.2 48 b = m 48 b ∧ s.2 49 b = m 49 b) _ 0 (Z 0 0) ?_ ?_ 1000000 0 (0, m) (by omega) (by omega) (by omega) ⟨rfl, eqO.refl, fun b hb => by omega, fun b hb => ⟨rfl, rfl⟩⟩
  · intro n s ⟨i1, i2, i3, i4⟩
    have g' := (hm.keep (i2.mono (by simp))).1
    show wp (M_round_B178 _ _ _ _ _ _ _ _ _) _
    unfold M_round_B178
    rw [rd_ok g'.rg.1 g'.rg.2.1, g'.rg.2.2.2, if_neg (by omega), i1]
    exact hK s.2 i2 i3
  · intro n i s q0 q1 ⟨i1, i2, i3, i4⟩ hr
    have hm' := hm.keep (i2.mono (by simp))
    have g' := hm'.1
    have ei : ((i.toNat : Nat) : Int) = i := by omega
    have en : (i + 1).toNat = i.toNat + 1 := by omega
    have hh := has2_b (s := L) (g := i.toNat) (by omega) (by omega)
    rw [ei] at hh
    have ot := ot_lt (L := L) (p := pV (lhV Z S) (Z 0 0).toNat L) i.toNat
    have p32 : 2 ^ i.toNat ≤ 64 := Nat.pow_le_pow_right (show 0 < 2 by decide) (show i.toNat ≤ 6 by omega)
    have eO : otV L (pV (lhV Z S) (Z 0 0).toNat L) (i.toNat + 1) = if L.testBit i.toNat = true ∧ rigV (pV (lhV Z S) (Z 0 0).toNat L) i.toNat 6 (pV (lhV Z S) (Z 0 0).toNat L i.toNat) = true then otV L (pV (lhV Z S) (Z 0 0).toNat L) i.toNat ||| 2 ^ i.toNat else otV L (pV (lhV Z S) (Z 0 0).toNat L) i.toNat := rfl
    have stay : ¬ (L.testBit i.toNat = true ∧ rigV (pV (lhV Z S) (Z 0 0).toNat L) i.toNat 6 (pV (lhV Z S) (Z 0 0).toNat L i.toNat) = true) → wp (M_round_L178 K n x1 x2 (L : Int) r s.1 (i + 1) s.2) Q := by
      intro c
      rw [if_neg c] at eO
      refine hr s ⟨by rw [en, eO]; exact i1, i2, fun b hb => ?_, fun b hb => i4 b (by omega)⟩
      by_cases e : (b : Int) < i
      · exact i3 b e
      · have eb : b = i.toNat := by omega
        subst eb
        unfold gtV
        rw [if_neg c, if_neg c]
        exact i4 _ (by omega)
    show wp (M_round_B178 _ _ _ _ _ _ _ _ _) _
    unfold M_round_B178
    rw [rd_ok g'.rg.1 g'.rg.2.1, g'.rg.2.2.2, if_pos q1, hh, Option.bind_some, wI_ok (x := i + 1) (by omega) (by omega)]
    by_cases c : L.testBit i.toNat = true
    · have hp' : poV Z S s.2 47 L := fun b hb => by rw [i2 47 (by simp)]; exact hp b hb
      have go := inRing_ok hm' hp' c
      rw [ei] at go
      rw [if_pos c, if_neg n10, go, Option.bind_some]
      by_cases d : rigV (pV (lhV Z S) (Z 0 0).toNat L) i.toNat 6 (pV (lhV Z S) (Z 0 0).toNat L i.toNat) = true
      · have pn := hL _ (pt_in (lk := lhV Z S) c (Z 0 0).toNat)
        have e47 := hp' i.toNat c
        rw [ei] at e47
        have pvn : pV (lhV Z S) (Z 0 0).toNat L i.toNat < (Z 0 0).toNat := pn.1
        have e46 := hm'.2.2.2 (pV (lhV Z S) (Z 0 0).toNat L i.toNat) (by omega)
        have ev : slI 1 i = ((2 ^ i.toNat : Nat) : Int) := by rw [← slI_1 (by omega), ei]
        rw [if_pos ⟨c, d⟩] at eO
        rw [if_pos d, if_neg n10, lt_ok, rd_ok q0 (by omega), e47, rd_ok (by omega) (by omega), e46, wr_ok q0 (by omega), wr_ok q0 (by omega), i1, ev, orI_nat (by omega) (by omega)]
        refine hr (((otV L (pV (lhV Z S) (Z 0 0).toNat L) i.toNat ||| 2 ^ i.toNat : Nat) : Int), upm (upm s.2 48 i (hdV Z S (pV (lhV Z S) (Z 0 0).toNat L i.toNat))) 49 i r) ⟨by rw [en, eO], (i2.put (by simp)).put (by simp), fun b hb => ?_, fun b hb => ?_⟩
        · dsimp only
          by_cases e : (b : Int) = i
          · have eb : b = i.toNat := by omega
            subst eb
            unfold gtV
            rw [if_pos ⟨c, d⟩, if_pos ⟨c, d⟩, ei]
            exact ⟨by rw [ru1 (by decide), ru3 rfl rfl], ru3 rfl rfl⟩
          · have p := i3 b (by omega)
            exact ⟨by rw [ru1 (by decide), ru2 e]; exact p.1, by rw [ru2 e, ru1 (by decide)]; exact p.2⟩
        · dsimp only
          have p := i4 b (by omega)
          exact ⟨by rw [ru1 (by decide), ru2 (by omega)]; exact p.1, by rw [ru2 (by omega), ru1 (by decide)]; exact p.2⟩
      · rw [if_neg d, if_pos p00]
        exact stay (fun t => d t.2)
    · rw [if_neg c, if_pos p00]
      exact stay (fun t => c t.1)
theorem wp_ringLM {Z S : zM} {bk x1 x2 : Int} {K : Int → Int → zM → Option (Int × zM)} {Q : Int × zM → Prop} : ∀ (d L n : Nat) (r : Int) (G V : Nat → Int) (m : zM), 1 ≤ r → r + d ≤ 7 → d < n → pcN L ≤ d → roM Z S m bk L → (∀ b : Nat, (b : Int) < Z 0 0 → m 48 b = G b ∧ m 49 b = V b) → (∀ m1, eqO [37, 38, 47, 48, 49] m m1 → (∀ b : Nat, (b : Int) < Z 0 0 → m1 48 b = (rnV (lhV Z S) (hdV Z S) (Z 0 0).toNat d L r G V).1 b ∧ m1 49 b = (rnV (lhV Z S) (hdV Z S) (Z 0 0).toNat d L r G V).2 b) → wp (K x1 x2 m1) Q) → wp (M_round_L117 K n x1 x2 (L : Int) r m) Q := by
  intro d
  induction d with
  | zero =>
    intro L n r G V m r0 r1 hn hpc hm hg hK
    obtain ⟨n, rfl⟩ : ∃ k, n = k + 1 := ⟨n - 1, by omega⟩
    have l0 := pc_0 L hm.2.1 (by omega)
    show wp (M_round_B117 _ _ _ _ _ _ _) _
    unfold M_round_B117
    rw [if_pos (by omega)]
    exact hK m eqO.refl hg
  | succ d ih =>
    intro L n r G V m r0 r1 hn hpc hm hg hK
    obtain ⟨n, rfl⟩ : ∃ k, n = k + 1 := ⟨n - 1, by omega⟩
    have eR : rnV (lhV Z S) (hdV Z S) (Z 0 0).toNat (d + 1) L r G V = if L = 0 then (G, V) else rnV (lhV Z S) (hdV Z S) (Z 0 0).toNat d (nxV (lhV Z S) (Z 0 0).toNat L) (r + 1) (fun b => gtV Z S L b (hdV Z S (pV (lhV Z S) (Z 0 0).toNat L b)) (G b)) (fun b => gtV Z S L b r (V b)) := rfl
    have n1 := hm.1.nb
    show wp (M_round_B117 _ _ _ _ _ _ _) _
    unfold M_round_B117
    by_cases c : L = 0
    · rw [if_pos c] at eR
      rw [eR] at hK
      rw [if_pos (by omega)]
      exact hK m eqO.refl hg
    · rw [if_neg c] at eR
      rw [eR] at hK
      rw [if_neg (by omega)]
      refine wp_ptsM hm (fun m1 k1 p1 => ?_)
      have hm1 := hm.keep (k1.mono (by simp))
      refine wp_leaveM hm1 p1 (fun m2 k2 g2 => ?_)
      have ot := ot_lt (L := L) (p := pV (lhV Z S) (Z 0 0).toNat L) (Z 0 0).toNat
      have p64 : 2 ^ (Z 0 0).toNat ≤ 64 := Nat.pow_le_pow_right (show 0 < 2 by decide) (show (Z 0 0).toNat ≤ 6 by omega)
      have hm2 : roM Z S m2 bk (nxV (lhV Z S) (Z 0 0).toNat L) := by
        obtain ⟨a1, a2, a3, a4⟩ := hm1.keep (k2.mono (by simp))
        exact ⟨a1, nx_lt a2, fun b hb => a3 b (nx_bit hb), a4⟩
      have pc := nxV_pc (lk := lhV Z S) (nb := (Z 0 0).toNat) (L := L) (by omega) (fun b hb => (hm.2.2.1 b hb).1) hm.2.1 c
      show wp (lt (anI (L : Int) (xoI (otV L (pV (lhV Z S) (Z 0 0).toNat L) (Z 0 0).toNat : Int) (-1))) _) _
      rw [lt_ok, nx_and L hm.2.1 _ (by omega), wI_ok (by omega) (by omega)]
      refine ih (nxV (lhV Z S) (Z 0 0).toNat L) n (r + 1) _ _ m2 (by omega) (by omega) (by omega) (by omega) hm2 (fun b hb => ?_) (fun m3 k3 g3 => hK m3 (((k1.mono (by simp)).trans (k2.mono (by simp))).trans k3) g3)
      have g := g2 b hb
      have g0 := hg b hb
      rw [k1 48 (by simp), k1 49 (by simp), g0.1, g0.2] at g
      exact g
