/-! rounds, the class's -/
def hdV (Z S : zM) (b : Nat) : Int := wishV Z S (b : Int) 0 (max 1 (Z 0 14))
def lhV (Z S : zM) (b c : Nat) : Int := LKV Z S (b : Int) (hdV Z S c)
theorem hd_b {Z S mM : zM} {bk v : Int} (h : GG Z S mM bk v) {b : Nat} (hb : (b : Int) < Z 0 0) : -1 ≤ hdV Z S b ∧ hdV Z S b < Z 0 1 := by
  have n2 := h.ng
  have f := fav_b (b := (b : Int)) (taken := 0) (fr := max 1 (Z 0 14)) h (by omega) hb (Z 0 1).toNat (by omega)
  unfold hdV wishV
  split <;> omega
theorem hd_fav {Z S : zM} {b : Nat} : (favV Z S (b : Int) 0 (max 1 (Z 0 14)) (Z 0 1).toNat).2 = hdV Z S b := by
  unfold hdV wishV
  by_cases c : awV Z S (b : Int) = true
  · rw [if_pos ⟨by omega, c⟩]
  · rw [if_neg (fun t => c t.2)]
    rcases fav_taken (Z := Z) (S := S) (b := (b : Int)) (taken := 0) (fr := max 1 (Z 0 14)) (Z 0 1).toNat with e | e
    · exact e
    · have := e.2.2.1
      rw [Bool.and_eq_true] at this
      exact absurd this.1 c
theorem wp_hold {Z S mM m : zM} {z : Nat} {bk : Int} (h : GG Z S mM bk 0) (hZ : zv m z = Z) (hS : sv m 8 = S) (hz : z = 55 ∨ z = 72) (hl : ∀ b g, 0 ≤ b → b < Z 0 0 → 0 ≤ g → g < Z 0 1 → m 26 (b * 8 + g) = LMV Z S b g) : wp (Ri_hold z 8 m) (fun m' => eqO [29, 44, 45, 46, 47, z + 16] m m' ∧ m' 44 4 = (ltV (hdV Z S) (Z 0 0).toNat : Int) ∧ ∀ b : Nat, (b : Int) < Z 0 0 → m' 45 b = hdV Z S b ∧ m' 46 b = -1 ∧ m' 47 b = -1) := by
  have n1 := h.nb
  have n2 := h.ng
  have us := h.ush
  unfold Ri_hold
  rw [pf_ok]
  refine wp_for (fun n i s => Ri_hold_L8 n z 8 i s) (fun i s => eqO [29, 44, 45, 46, 47, z + 16] m s ∧ s 44 4 = (ltV (hdV Z S) i.toNat : Int) ∧ ∀ b : Nat, (b : Int) < i → s 45 b = hdV Z S b ∧ s 46 b = -1 ∧ s 47 b = -1) _ 0 (Z 0 0) ?_ ?_ 1000000 0 (upm m 44 4 0) (by omega) (by omega) (by omega) ⟨eqO.refl.put (by simp), by rw [ru3 rfl rfl]; rfl, fun b hb => by omega⟩
  · intro n s ⟨i1, i2, i3⟩
    have zs : zv s z = Z := by rw [← hZ]; exact zv_eq fun q _ _ => i1 _ (by simp; omega)
    show wp (Ri_hold_B8 _ _ _ _ _) _
    unfold Ri_hold_B8
    rw [rZ0 zs, if_neg (by omega)]
    exact wp_some ⟨i1, i2, i3⟩
  · intro n i s q0 q1 ⟨i1, i2, i3⟩ hr
    have zs : zv s z = Z := by rw [← hZ]; exact zv_eq fun q _ _ => i1 _ (by simp; omega)
    have ss : sv s 8 = S := by rw [← hS]; exact sv_eq fun q _ => i1 _ (by simp; omega)
    have ei : ((i.toNat : Nat) : Int) = i := by omega
    have en : (i + 1).toNat = i.toNat + 1 := by omega
    have l6 : ltV (hdV Z S) i.toNat < 2 ^ i.toNat := lt_lt _
    have p64 : 2 ^ i.toNat ≤ 64 := Nat.pow_le_pow_right (show 0 < 2 by decide) (show i.toNat ≤ 6 by omega)
    show wp (Ri_hold_B8 _ _ _ _ _) _
    unfold Ri_hold_B8
    rw [rZ0 zs, if_pos q1]
    refine wp_bm (wp_fav h zs ss (by omega) (by omega) (by omega) q0 q1 (by omega) (by omega) (fun g g0 g1 => by rw [i1 26 (by simp; omega)]; exact hl i g q0 q1 g0 g1)) (fun r ⟨r1, r2⟩ => ?_)
    have fe := hd_fav (Z := Z) (S := S) (b := i.toNat)
    rw [ei] at fe
    rw [fe] at r1
    rw [wr_ok q0 (by omega), wr_ok q0 (by omega), wr_ok q0 (by omega), rd_ok q0 (by omega)]
    have e45 : upm (upm (upm r.2 45 i r.1) 46 i (-1)) 47 i (-1) 45 i = hdV Z S i.toNat := by rw [ru1 (by decide), ru1 (by decide), ru3 rfl rfl, r1]
    have e3 : eqO [29, 44, 45, 46, 47, z + 16] m (upm (upm (upm r.2 45 i r.1) 46 i (-1)) 47 i (-1)) := (((i1.trans (r2.mono (by simp))).put (by simp)).put (by simp)).put (by simp)
    have e44 : upm (upm (upm r.2 45 i r.1) 46 i (-1)) 47 i (-1) 44 4 = (ltV (hdV Z S) i.toNat : Int) := by rw [ru1 (by decide), ru1 (by decide), ru1 (by decide), r2 44 (by simp; omega), i2]
    have rows : ∀ b : Nat, (b : Int) < i + 1 → upm (upm (upm r.2 45 i r.1) 46 i (-1)) 47 i (-1) 45 b = hdV Z S b ∧ upm (upm (upm r.2 45 i r.1) 46 i (-1)) 47 i (-1) 46 b = -1 ∧ upm (upm (upm r.2 45 i r.1) 46 i (-1)) 47 i (-1) 47 b = -1 := by
      intro b hb
      by_cases e : (b : Int) = i
      · have eb : b = i.toNat := by omega
        subst eb
        rw [ei]
        exact ⟨e45, by rw [ru1 (by decide), ru3 rfl rfl], ru3 rfl rfl⟩
      · have p := i3 b (by omega)
        refine ⟨?_, ?_, ?_⟩
        · rw [ru1 (by decide), ru1 (by decide), ru2 e, r2 45 (by simp; omega)]; exact p.1
        · rw [ru1 (by decide), ru2 e, ru1 (by decide), r2 46 (by simp; omega)]; exact p.2.1
        · rw [ru2 e, ru1 (by decide), ru1 (by decide), r2 47 (by simp; omega)]; exact p.2.2
    have eL : ltV (hdV Z S) (i.toNat + 1) = if hdV Z S i.toNat = -1 then ltV (hdV Z S) i.toNat else ltV (hdV Z S) i.toNat ||| 2 ^ i.toNat := rfl
    generalize upm (upm (upm r.2 45 i r.1) 46 i (-1)) 47 i (-1) = s3 at *
    rw [e45, wI_ok (x := i + 1) (by omega) (by omega)]
    by_cases c : hdV Z S i.toNat = -1
    · rw [if_pos c] at eL
      rw [if_pos c]
      exact hr s3 ⟨e3, by rw [e44, en, eL], rows⟩
    · rw [if_neg c] at eL
      rw [if_neg c, pf_ok]
      have ev : slI 1 i = ((2 ^ i.toNat : Nat) : Int) := by rw [← slI_1 (by omega), ei]
      refine hr _ ⟨e3.put (by simp), ?_, fun b hb => by rw [ru1 (by decide), ru1 (by decide), ru1 (by decide)]; exact rows b hb⟩
      rw [ru3 rfl rfl, e44, ev, orI_nat (by omega) (by omega), en, eL]
/-- what the class's rows hold in a round -/
def roC (Z S m : zM) (z : Nat) (L : Nat) : Prop := zv m z = Z ∧ sv m 8 = S ∧ m 44 4 = (L : Int) ∧ L < 64 ∧ (∀ b, L.testBit b = true → b < (Z 0 0).toNat ∧ 0 ≤ hdV Z S b) ∧ ∀ b : Nat, (b : Int) < Z 0 0 → m 45 b = hdV Z S b
theorem left_ok {Z S m : zM} {z L b : Nat} (hm : roC Z S m z L) (hb : b < 32) : Ri_isLeft (b : Int) m = some (if L.testBit b = true then 1 else 0) := by
  unfold Ri_isLeft
  have := hm.2.2.2.1
  rw [hm.2.2.1, bit_1 (by omega) hb]
  by_cases c : L.testBit b = true
  · rw [if_pos c, if_neg n10]
  · rw [if_neg c, if_pos rfl]
theorem roC.keep {Z S m m' : zM} {z L : Nat} {l : List Nat} (hz : z = 55 ∨ z = 72) (hm : roC Z S m z L) (k : eqO l m m') (hl : ∀ a ∈ l, a = 29 ∨ (46 ≤ a ∧ a ≤ 48) ∨ a = z + 13 ∨ a = z + 16) : roC Z S m' z L := by
  obtain ⟨h1, h2, h3, h4, h5, h6⟩ := hm
  refine ⟨?_, ?_, ?_, h4, h5, fun b hb => ?_⟩
  · rw [← h1]; exact zv_eq fun q _ _ => k _ (fun w => by have := hl _ w; omega)
  · rw [← h2]; exact sv_eq fun q _ => k _ (fun w => by have := hl _ w; omega)
  · rw [k 44 (fun w => by have := hl _ w; omega)]; exact h3
  · rw [k 45 (fun w => by have := hl _ w; omega)]; exact h6 b hb
theorem wp_pointedC {Z S mM m : zM} {z L b : Nat} {bk : Int} (h : GG Z S mM bk 0) (hz : z = 55 ∨ z = 72) (hm : roC Z S m z L) (hb : L.testBit b = true) : wp (Ri_pointed z 8 (b : Int) m) (fun r => r.1 = (pV (lhV Z S) (Z 0 0).toNat L b : Int) ∧ eqO [29, z + 13] m r.2) := by
  have n1 := h.nb
  have n2 := h.ng
  have hL := hm.2.2.2.2.1
  have bb := hL b hb
  have hd := hd_b h (b := b) (by omega)
  have lkw : ∀ (c : Nat) (m' : zM), L.testBit c = true → roC Z S m' z L → wp (Ke_liking z 8 (b : Int) (hdV Z S c) m') (fun r => r.1 = lhV Z S b c ∧ eqO [29, z + 13] m' r.2) := fun c m' hc hm' => by
    have cc := hL c hc
    have hc2 := hd_b h (b := c) (by omega)
    exact wp_liking h hm'.1 hm'.2.1 (by omega) (by omega) (by omega) (by omega) cc.2 hc2.2
  unfold Ri_pointed
  rw [rd_ok (by omega) (by omega), hm.2.2.2.2.2 b (by omega)]
  refine wp_bm (lkw b m hb hm) (fun r0 ⟨r1, r2⟩ => ?_)
  refine wp_for (fun n i (s : Int × Int × zM) => Ri_pointed_L24 n z 8 (b : Int) s.1 s.2.1 i s.2.2) (fun i s => s.1 = (ptV (lhV Z S) L b i.toNat : Int) ∧ s.2.1 = lhV Z S b (ptV (lhV Z S) L b i.toNat) ∧ eqO [29, z + 13] m s.2.2) _ 0 (Z 0 0) ?_ ?_ 1000000 0 ((b : Int), r0.1, r0.2) (by omega) (by omega) (by omega) ⟨rfl, r1, r2⟩
  · intro n s ⟨i1, i2, i3⟩
    show wp (Ri_pointed_B24 _ _ _ _ _ _ _ _) _
    unfold Ri_pointed_B24
    rw [rZ0 (hm.keep hz i3 (by simp)).1, if_neg (by omega)]
    exact wp_some ⟨i1, i3⟩
  · intro n i s q0 q1 ⟨i1, i2, i3⟩ hr
    have hm' := hm.keep hz i3 (by simp)
    have ei : ((i.toNat : Nat) : Int) = i := by omega
    have en : (i + 1).toNat = i.toNat + 1 := by omega
    have lo := left_ok hm' (b := i.toNat) (by omega)
    rw [ei] at lo
    have eP : ptV (lhV Z S) L b (i.toNat + 1) = if L.testBit i.toNat = true ∧ lhV Z S b (ptV (lhV Z S) L b i.toNat) < lhV Z S b i.toNat then i.toNat else ptV (lhV Z S) L b i.toNat := rfl
    show wp (Ri_pointed_B24 _ _ _ _ _ _ _ _) _
    unfold Ri_pointed_B24
    rw [rZ0 hm'.1, if_pos q1, lo, Option.bind_some, wI_ok (x := i + 1) (by omega) (by omega)]
    by_cases c : L.testBit i.toNat = true
    · have h45 := hm'.2.2.2.2.2 i.toNat (by omega)
      rw [ei] at h45
      rw [if_pos c, if_neg n10, rd_ok q0 (by omega), h45]
      refine wp_bm (lkw i.toNat s.2.2 c hm') (fun r ⟨t1, t2⟩ => ?_)
      rw [t1, i2]
      by_cases d : lhV Z S b (ptV (lhV Z S) L b i.toNat) < lhV Z S b i.toNat
      · rw [if_pos ⟨c, d⟩] at eP
        rw [if_pos d]
        exact hr (i, lhV Z S b i.toNat, r.2) ⟨by rw [en, eP, ei], by rw [en, eP], i3.trans t2⟩
      · rw [if_neg (fun t => d t.2)] at eP
        rw [if_neg d]
        exact hr (s.1, lhV Z S b (ptV (lhV Z S) L b i.toNat), r.2) ⟨by rw [en, eP]; exact i1, by rw [en, eP], i3.trans t2⟩
    · rw [if_neg (fun t => c t.1)] at eP
      rw [if_neg c, if_pos p00]
      exact hr s ⟨by rw [en, eP]; exact i1, by rw [en, eP]; exact i2, i3⟩
