/-! rounds, the model's -/
theorem GG.keepR {Z S mM mM' : zM} {bk v : Int} (h : GG Z S mM bk v) (k : eqO [37, 38, 46, 47, 48, 49] mM mM') : GG Z S mM' bk v := by
  have e : ∀ a, a ∉ [37, 38, 46, 47, 48, 49] → mM' a = mM a := k
  obtain ⟨hz, hs, h1, h2, h3⟩ := h
  refine ⟨?_, ?_, by rw [e 0 (by simp)]; exact h1, h2, h3⟩
  · unfold ZM FR at hz ⊢
    rw [e 2 (by simp), e 3 (by simp), e 4 (by simp), e 5 (by simp), e 6 (by simp), e 7 (by simp), e 8 (by simp), e 9 (by simp), e 10 (by simp), e 11 (by simp), e 12 (by simp), e 13 (by simp), e 14 (by simp), e 15 (by simp), e 16 (by simp), e 17 (by simp), e 18 (by simp)]
    exact hz
  · unfold SM at hs ⊢
    rw [e 27 (by simp), e 28 (by simp), e 29 (by simp), e 30 (by simp), e 31 (by simp), e 32 (by simp), e 33 (by simp), e 34 (by simp), e 35 (by simp), e 36 (by simp)]
    exact hs
def roM (Z S m : zM) (bk : Int) (L : Nat) : Prop := GG Z S m bk 0 ∧ L < 64 ∧ (∀ b, L.testBit b = true → b < (Z 0 0).toNat ∧ 0 ≤ hdV Z S b) ∧ ∀ b : Nat, (b : Int) < Z 0 0 → m 46 b = hdV Z S b
theorem roM.keep {Z S m m' : zM} {bk : Int} {L : Nat} (hm : roM Z S m bk L) (k : eqO [37, 38, 47, 48, 49] m m') : roM Z S m' bk L := by
  obtain ⟨h1, h2, h3, h4⟩ := hm
  exact ⟨h1.keepR (k.mono (by simp)), h2, h3, fun b hb => by rw [k 46 (by simp)]; exact h4 b hb⟩
theorem wp_pointedM {Z S m : zM} {L b : Nat} {bk : Int} (hm : roM Z S m bk L) (hb : L.testBit b = true) : wp (M_pointed (b : Int) (L : Int) m) (fun r => r.1 = (pV (lhV Z S) (Z 0 0).toNat L b : Int) ∧ eqO [37, 38] m r.2) := by
  have n1 := hm.1.nb
  have n2 := hm.1.ng
  have l64 := hm.2.1
  have hL := hm.2.2.1
  have bb := hL b hb
  have lkw : ∀ (c : Nat) (m' : zM), L.testBit c = true → roM Z S m' bk L → wp (M_liked 0 (b : Int) (hdV Z S c) m') (fun r => r.1 = lhV Z S b c ∧ eqO [37, 38] m' r.2) := fun c m' hc hm' => by
    have cc := hL c hc
    have hc2 := hd_b hm.1 (b := c) (by omega)
    exact wp_liked hm'.1 (by omega) (by omega) cc.2 hc2.2
  unfold M_pointed
  refine wp_for (fun n i (s : Int × zM) => M_pointed_L5 n (b : Int) (L : Int) s.1 i s.2) (fun i s => s.1 = (ptV (lhV Z S) L b i.toNat : Int) ∧ eqO [37, 38] m s.2) _ 0 (Z 0 0) ?_ ?_ 1000000 0 ((b : Int), m) (by omega) (by omega) (by omega) ⟨rfl, eqO.refl⟩
  · intro n s ⟨i1, i2⟩
    have g' := (hm.keep (i2.mono (by simp))).1
    show wp (M_pointed_B5 _ _ _ _ _ _) _
    unfold M_pointed_B5
    rw [rd_ok g'.rg.1 g'.rg.2.1, g'.rg.2.2.2, if_neg (by omega)]
    exact wp_some ⟨i1, i2⟩
  · intro n i s q0 q1 ⟨i1, i2⟩ hr
    have hm' := hm.keep (i2.mono (by simp))
    have g' := hm'.1
    have ei : ((i.toNat : Nat) : Int) = i := by omega
    have en : (i + 1).toNat = i.toNat + 1 := by omega
    have hh := has2_b (s := L) (g := i.toNat) (by omega) (by omega)
    rw [ei] at hh
    have eP : ptV (lhV Z S) L b (i.toNat + 1) = if L.testBit i.toNat = true ∧ lhV Z S b (ptV (lhV Z S) L b i.toNat) < lhV Z S b i.toNat then i.toNat else ptV (lhV Z S) L b i.toNat := rfl
    show wp (M_pointed_B5 _ _ _ _ _ _) _
    unfold M_pointed_B5
    rw [rd_ok g'.rg.1 g'.rg.2.1, g'.rg.2.2.2, if_pos q1, hh, Option.bind_some, wI_ok (x := i + 1) (by omega) (by omega)]
    by_cases c : L.testBit i.toNat = true
    · have h46 := hm'.2.2.2 i.toNat (by omega)
      rw [ei] at h46
      have pin := pt_in (lk := lhV Z S) hb i.toNat
      have pl := hL _ pin
      rw [if_pos c, if_neg n10, rd_ok q0 (by omega), h46]
      refine wp_bm (lkw i.toNat s.2 c hm') (fun r ⟨t1, t2⟩ => ?_)
      have hm2 := hm'.keep (t2.mono (by simp))
      have h46p := hm2.2.2.2 (ptV (lhV Z S) L b i.toNat) (by omega)
      rw [i1, rd_ok (by omega) (by omega), h46p]
      refine wp_bm (lkw _ r.2 pin hm2) (fun r' ⟨t3, t4⟩ => ?_)
      rw [t1, t3]
      by_cases d : lhV Z S b (ptV (lhV Z S) L b i.toNat) < lhV Z S b i.toNat
      · rw [if_pos ⟨c, d⟩] at eP
        rw [if_pos d]
        exact hr (i, r'.2) ⟨by rw [en, eP, ei], (i2.trans t2).trans t4⟩
      · rw [if_neg (fun t => d t.2)] at eP
        rw [if_neg d]
        exact hr (((ptV (lhV Z S) L b i.toNat : Nat) : Int), r'.2) ⟨by rw [en, eP], (i2.trans t2).trans t4⟩
    · rw [if_neg (fun t => c t.1)] at eP
      rw [if_neg c, if_pos p00]
      exact hr s ⟨by rw [en, eP]; exact i1, i2⟩
theorem inRing_ok {Z S m : zM} {L b : Nat} {bk : Int} (hm : roM Z S m bk L) (hp : poV Z S m 47 L) (hb : L.testBit b = true) : M_isInRing (b : Int) m = some (if rigV (pV (lhV Z S) (Z 0 0).toNat L) b 6 (pV (lhV Z S) (Z 0 0).toNat L b) = true then 1 else 0) := by
  have n1 := hm.1.nb
  have hL := hm.2.2.1
  have pin : ∀ y, L.testBit y = true → L.testBit (pV (lhV Z S) (Z 0 0).toNat L y) = true := fun y hy => pt_in hy _
  have K : ∀ (d n y : Nat), d ≤ 6 → d < n → L.testBit y = true → M_isInRing_L9 m n (b : Int) (y : Int) (6 - (d : Int)) = some (if rigV (pV (lhV Z S) (Z 0 0).toNat L) b d y = true then 1 else 0) := by
    intro d
    induction d with
    | zero =>
      intro n y hd hn hy
      obtain ⟨n, rfl⟩ : ∃ k, n = k + 1 := ⟨n - 1, by omega⟩
      show M_isInRing_B9 _ _ _ _ _ = _
      unfold M_isInRing_B9
      rw [if_neg (by omega)]
      rfl
    | succ d ih =>
      intro n y hd hn hy
      obtain ⟨n, rfl⟩ : ∃ k, n = k + 1 := ⟨n - 1, by omega⟩
      have e : rigV (pV (lhV Z S) (Z 0 0).toNat L) b (d + 1) y = if y = b then true else rigV (pV (lhV Z S) (Z 0 0).toNat L) b d (pV (lhV Z S) (Z 0 0).toNat L y) := rfl
      have yn := hL y hy
      show M_isInRing_B9 _ _ _ _ _ = _
      unfold M_isInRing_B9
      rw [if_pos (by omega), e]
      by_cases c : y = b
      · rw [if_pos (by omega), if_pos c, if_pos rfl]
      · rw [if_neg (by omega), if_neg c, rd_ok (by omega) (by omega), hp y hy, wI_ok (by omega) (by omega), show 6 - ((d + 1 : Nat) : Int) + 1 = 6 - (d : Int) from by omega]
        exact ih n _ (by omega) (by omega) (pin y hy)
  have bn := hL b hb
  unfold M_isInRing
  rw [rd_ok (by omega) (by omega), hp b hb]
  exact K 6 1000000 _ (by omega) (by omega) (pin b hb)
theorem wp_ptsM {Z S m : zM} {L : Nat} {bk x1 x2 r : Int} {K : Int → Int → Int → Int → zM → Option (Int × zM)} {Q : Int × zM → Prop} (hm : roM Z S m bk L) (hK : ∀ m1, eqO [37, 38, 47] m m1 → poV Z S m1 47 L → wp (K x1 x2 (L : Int) r m1) Q) : wp (M_round_L124 K 1000000 x1 x2 (L : Int) r 0 m) Q := by
  have n1 := hm.1.nb
  have l64 := hm.2.1
  have hL := hm.2.2.1
  refine wp_for (fun n i (s : zM) => M_round_L124 K n x1 x2 (L : Int) r i s) (fun i s => eqO [37, 38, 47] m s ∧ ∀ b : Nat, (b : Int) < i → L.testBit b = true → s 47 b = (pV (lhV Z S) (Z 0 0).toNat L b : Int)) _ 0 (Z 0 0) ?_ ?_ 1000000 0 m (by omega) (by omega) (by omega) ⟨eqO.refl, fun b hb => by omega⟩
  · intro n s ⟨i1, i2⟩
    have g' := (hm.keep (i1.mono (by simp))).1
    show wp (M_round_B124 _ _ _ _ _ _ _ _) _
    unfold M_round_B124
    rw [rd_ok g'.rg.1 g'.rg.2.1, g'.rg.2.2.2, if_neg (by omega)]
    exact hK s i1 (fun b hb => i2 b (by have := (hL b hb).1; omega) hb)
  · intro n i s q0 q1 ⟨i1, i2⟩ hr
    have hm' := hm.keep (i1.mono (by simp))
    have g' := hm'.1
    have ei : ((i.toNat : Nat) : Int) = i := by omega
    have hh := has2_b (s := L) (g := i.toNat) (by omega) (by omega)
    rw [ei] at hh
    show wp (M_round_B124 _ _ _ _ _ _ _ _) _
    unfold M_round_B124
    rw [rd_ok g'.rg.1 g'.rg.2.1, g'.rg.2.2.2, if_pos q1, hh, Option.bind_some, wI_ok (x := i + 1) (by omega) (by omega)]
    by_cases c : L.testBit i.toNat = true
    · have pw := wp_pointedM hm' c
      rw [ei] at pw
      rw [if_pos c, if_neg n10]
      refine wp_bm pw (fun t ⟨t1, t2⟩ => ?_)
      rw [wr_ok q0 (by omega)]
      refine hr _ ⟨(i1.trans (t2.mono (by simp))).put (by simp), fun b hb hb2 => ?_⟩
      by_cases e : (b : Int) = i
      · have eb : b = i.toNat := by omega
        subst eb
        rw [ei, ru3 rfl rfl, t1]
      · rw [ru2 e, t2 47 (by simp)]
        exact i2 b (by omega) hb2
    · rw [if_neg c, if_pos p00, wr_ok q0 (by omega)]
      refine hr _ ⟨i1.put (by simp), fun b hb hb2 => ?_⟩
      by_cases e : (b : Int) = i
      · have eb : b = i.toNat := by omega
        subst eb
        exact absurd hb2 c
      · rw [ru2 e]
        exact i2 b (by omega) hb2
