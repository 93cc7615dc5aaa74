/-! rounds, the class's: who leaves -/
/-- where the class's row of points is right -/
def poV (Z S m : zM) (a L : Nat) : Prop := ∀ b : Nat, L.testBit b = true → m a b = (pV (lhV Z S) (Z 0 0).toNat L b : Int)
theorem goes_ok {Z S m : zM} {z L b : Nat} (n1 : Z 0 0 ≤ 6) (hm : roC Z S m z L) (hp : poV Z S m 48 L) (hb : L.testBit b = true) : Ri_goesRound (b : Int) m = some (if rigV (pV (lhV Z S) (Z 0 0).toNat L) b 6 (pV (lhV Z S) (Z 0 0).toNat L b) = true then 1 else 0) := by
  have hL := hm.2.2.2.2.1
  have pin : ∀ y, L.testBit y = true → L.testBit (pV (lhV Z S) (Z 0 0).toNat L y) = true := fun y hy => pt_in hy _
  have K : ∀ (d n y : Nat), d ≤ 6 → d < n → L.testBit y = true → Ri_goesRound_L9 (fun x1_2 x2_2 => Ri_goesRound_b33 x1_2 x2_2 m) m n (b : Int) (y : Int) (6 - (d : Int)) = some (if rigV (pV (lhV Z S) (Z 0 0).toNat L) b (d + 1) y = true then 1 else 0) := by
    intro d
    induction d with
    | zero =>
      intro n y hd hn hy
      obtain ⟨n, rfl⟩ : ∃ k, n = k + 1 := ⟨n - 1, by omega⟩
      show Ri_goesRound_B9 _ _ _ _ _ _ = _
      unfold Ri_goesRound_B9
      rw [if_neg (by omega)]
      show Ri_goesRound_b33 _ _ _ = _
      unfold Ri_goesRound_b33
      have e : rigV (pV (lhV Z S) (Z 0 0).toNat L) b (0 + 1) y = if y = b then true else false := rfl
      rw [e]
      by_cases c : y = b
      · rw [if_pos (by omega), if_pos c, if_pos rfl]
      · rw [if_neg (by omega), if_neg c, if_neg (by decide)]
    | succ d ih =>
      intro n y hd hn hy
      obtain ⟨n, rfl⟩ : ∃ k, n = k + 1 := ⟨n - 1, by omega⟩
      have e : rigV (pV (lhV Z S) (Z 0 0).toNat L) b (d + 1 + 1) y = if y = b then true else rigV (pV (lhV Z S) (Z 0 0).toNat L) b (d + 1) (pV (lhV Z S) (Z 0 0).toNat L y) := rfl
      have yn := hL y hy
      show Ri_goesRound_B9 _ _ _ _ _ _ = _
      unfold Ri_goesRound_B9
      rw [if_pos (by omega), e]
      by_cases c : y = b
      · rw [if_pos (by omega), if_pos c, if_pos rfl]
        show Ri_goesRound_b33 _ _ _ = _
        unfold Ri_goesRound_b33
        rw [if_pos (by omega)]
      · rw [if_neg (by omega), if_neg c, rd_ok (by omega) (by omega), hp y hy, wI_ok (by omega) (by omega), show 6 - ((d + 1 : Nat) : Int) + 1 = 6 - (d : Int) from by omega]
        exact ih n _ (by omega) (by omega) (pin y hy)
  have bn := hL b hb
  unfold Ri_goesRound
  rw [rd_ok (by omega) (by omega), hp b hb]
  refine Eq.trans (K 6 1000000 _ (by omega) (by omega) (pin b hb)) ?_
  rw [show 6 + 1 = 7 from rfl, fol7 (fun i => by have := hL _ (it_in (lk := lhV Z S) (nb := (Z 0 0).toNat) i b hb); omega)]
/-- what each gets now -/
def gtV (Z S : zM) (L b : Nat) (x y : Int) : Int := if L.testBit b = true ∧ rigV (pV (lhV Z S) (Z 0 0).toNat L) b 6 (pV (lhV Z S) (Z 0 0).toNat L b) = true then x else y
theorem wp_leave {Z S m : zM} {z L : Nat} {r : Int} (n0 : 0 ≤ Z 0 0) (n1 : Z 0 0 ≤ 6) (hz : z = 55 ∨ z = 72) (hm : roC Z S m z L) (hp : poV Z S m 48 L) : wp (Ri_leave z r m) (fun m' => eqO [44, 46, 47] m m' ∧ m' 44 4 = (nxV (lhV Z S) (Z 0 0).toNat L : Int) ∧ ∀ b : Nat, (b : Int) < Z 0 0 → m' 46 b = gtV Z S L b (hdV Z S (pV (lhV Z S) (Z 0 0).toNat L b)) (m 46 b) ∧ m' 47 b = gtV Z S L b r (m 47 b)) := by
  have hL := hm.2.2.2.2.1
  have p64 : 2 ^ (Z 0 0).toNat ≤ 64 := Nat.pow_le_pow_right (show 0 < 2 by decide) (show (Z 0 0).toNat ≤ 6 by omega)
  unfold Ri_leave
  refine wp_for (fun n i (s : Int × zM) => Ri_leave_L5 n z r s.1 i s.2) (fun i s => s.1 = (otV L (pV (lhV Z S) (Z 0 0).toNat L) i.toNat : Int) ∧ eqO [46, 47] m s.2 ∧ (∀ b : Nat, (b : Int) < i → s.2 46 b = gtV Z S L b (hdV Z S (pV (lhV Z S) (Z 0 0).toNat L b)) (m 46 b) ∧ s.2 47 b = gtV Z S L b r (m 47 b)) ∧ ∀ b : Nat, i ≤ (b : Int) → s.2 46 b = m 46 b ∧ s.2 47 b = m 47 b) _ 0 (Z 0 0) ?_ ?_ 1000000 0 (0, m) (by omega) (by omega) (by omega) ⟨rfl, eqO.refl, fun b hb => by omega, fun b hb => ⟨rfl, rfl⟩⟩
  · intro n s ⟨i1, i2, i3, i4⟩
    have hm' := hm.keep hz i2 (by simp)
    have ot := ot_lt (L := L) (p := pV (lhV Z S) (Z 0 0).toNat L) (Z 0 0).toNat
    show wp (Ri_leave_B5 _ _ _ _ _ _) _
    unfold Ri_leave_B5
    rw [rZ0 hm'.1, if_neg (by omega), pf_ok, hm'.2.2.1, i1, nx_and L hm.2.2.2.1 _ (by omega)]
    exact wp_some ⟨(i2.mono (by simp)).put (by simp), by rw [ru3 rfl rfl]; rfl, fun b hb => by rw [ru1 (by decide), ru1 (by decide)]; exact i3 b hb⟩
  · intro n i s q0 q1 ⟨i1, i2, i3, i4⟩ hr
    have hm' := hm.keep hz i2 (by simp)
    have ei : ((i.toNat : Nat) : Int) = i := by omega
    have en : (i + 1).toNat = i.toNat + 1 := by omega
    have lo := left_ok hm' (b := i.toNat) (by omega)
    rw [ei] at lo
    have ot := ot_lt (L := L) (p := pV (lhV Z S) (Z 0 0).toNat L) i.toNat
    have p32 : 2 ^ i.toNat ≤ 64 := Nat.pow_le_pow_right (show 0 < 2 by decide) (show i.toNat ≤ 6 by omega)
    have eO : otV L (pV (lhV Z S) (Z 0 0).toNat L) (i.toNat + 1) = if L.testBit i.toNat = true ∧ rigV (pV (lhV Z S) (Z 0 0).toNat L) i.toNat 6 (pV (lhV Z S) (Z 0 0).toNat L i.toNat) = true then otV L (pV (lhV Z S) (Z 0 0).toNat L) i.toNat ||| 2 ^ i.toNat else otV L (pV (lhV Z S) (Z 0 0).toNat L) i.toNat := rfl
    have stay : ¬ (L.testBit i.toNat = true ∧ rigV (pV (lhV Z S) (Z 0 0).toNat L) i.toNat 6 (pV (lhV Z S) (Z 0 0).toNat L i.toNat) = true) → wp (Ri_leave_L5 n z r s.1 (i + 1) s.2) (fun m' => eqO [44, 46, 47] m m' ∧ m' 44 4 = (nxV (lhV Z S) (Z 0 0).toNat L : Int) ∧ ∀ b : Nat, (b : Int) < Z 0 0 → m' 46 b = gtV Z S L b (hdV Z S (pV (lhV Z S) (Z 0 0).toNat L b)) (m 46 b) ∧ m' 47 b = gtV Z S L b r (m 47 b)) := by
      intro c
      rw [if_neg c] at eO
      refine hr s ⟨by rw [en, eO]; exact i1, i2, fun b hb => ?_, fun b hb => i4 b (by omega)⟩
      by_cases e : (b : Int) < i
      · exact i3 b e
      · have eb : b = i.toNat := by omega
        subst eb
        unfold gtV
        rw [if_neg c, if_neg c]
        exact i4 _ (by omega)
    show wp (Ri_leave_B5 _ _ _ _ _ _) _
    unfold Ri_leave_B5
    rw [rZ0 hm'.1, if_pos q1, lo, Option.bind_some, wI_ok (x := i + 1) (by omega) (by omega)]
    by_cases c : L.testBit i.toNat = true
    · have hp' : poV Z S s.2 48 L := fun b hb => by rw [i2 48 (by simp)]; exact hp b hb
      have go := goes_ok n1 hm' hp' c
      rw [ei] at go
      rw [if_pos c, if_neg n10, go, Option.bind_some]
      by_cases d : rigV (pV (lhV Z S) (Z 0 0).toNat L) i.toNat 6 (pV (lhV Z S) (Z 0 0).toNat L i.toNat) = true
      · have pn := hL _ (pt_in (lk := lhV Z S) c (Z 0 0).toNat)
        have e48 := hp' i.toNat c
        rw [ei] at e48
        have pvn : pV (lhV Z S) (Z 0 0).toNat L i.toNat < (Z 0 0).toNat := pn.1
        have e45 := hm'.2.2.2.2.2 (pV (lhV Z S) (Z 0 0).toNat L i.toNat) (by omega)
        have ev : slI 1 i = ((2 ^ i.toNat : Nat) : Int) := by rw [← slI_1 (by omega), ei]
        rw [if_pos ⟨c, d⟩] at eO
        rw [if_pos d, if_neg n10, rd_ok q0 (by omega), e48, rd_ok (by omega) (by omega), e45, wr_ok q0 (by omega), wr_ok q0 (by omega), lt_ok, i1, ev, orI_nat (by omega) (by omega)]
        refine hr (((otV L (pV (lhV Z S) (Z 0 0).toNat L) i.toNat ||| 2 ^ i.toNat : Nat) : Int), upm (upm s.2 46 i (hdV Z S (pV (lhV Z S) (Z 0 0).toNat L i.toNat))) 47 i r) ⟨by rw [en, eO], (i2.put (by simp)).put (by simp), fun b hb => ?_, fun b hb => ?_⟩
        · dsimp only
          by_cases e : (b : Int) = i
          · have eb : b = i.toNat := by omega
            subst eb
            unfold gtV
            rw [if_pos ⟨c, d⟩, if_pos ⟨c, d⟩, ei]
            exact ⟨by rw [ru1 (by decide), ru3 rfl rfl], ru3 rfl rfl⟩
          · have p := i3 b (by omega)
            exact ⟨by rw [ru1 (by decide), ru2 e]; exact p.1, by rw [ru2 e, ru1 (by decide)]; exact p.2⟩
        · dsimp only
          have p := i4 b (by omega)
          exact ⟨by rw [ru1 (by decide), ru2 (by omega)]; exact p.1, by rw [ru2 (by omega), ru1 (by decide)]; exact p.2⟩
      · rw [if_neg d, if_pos p00]
        exact stay (fun t => d t.2)
    · rw [if_neg c, if_pos p00]
      exact stay (fun t => c t.1)
