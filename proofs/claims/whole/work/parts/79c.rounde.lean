/-! rounds, the class's: all of them -/
theorem wp_ptsC {Z S mM m : zM} {z L : Nat} {bk r : Int} {K : Nat → Nat → Int → zM → Option zM} {Q : zM → Prop} (h : GG Z S mM bk 0) (hz : z = 55 ∨ z = 72) (hm : roC Z S m z L) (hK : ∀ m1, eqO [29, 48, z + 13] m m1 → poV Z S m1 48 L → wp (K z 8 r m1) Q) : wp (Ri_find_L27 K 1000000 z 8 r 0 m) Q := by
  have n1 := h.nb
  have hL := hm.2.2.2.2.1
  refine wp_for (fun n i (s : zM) => Ri_find_L27 K n z 8 r i s) (fun i s => eqO [29, 48, z + 13] m s ∧ ∀ b : Nat, (b : Int) < i → L.testBit b = true → s 48 b = (pV (lhV Z S) (Z 0 0).toNat L b : Int)) _ 0 (Z 0 0) ?_ ?_ 1000000 0 m (by omega) (by omega) (by omega) ⟨eqO.refl, fun b hb => by omega⟩
  · intro n s ⟨i1, i2⟩
    show wp (Ri_find_B27 _ _ _ _ _ _ _) _
    unfold Ri_find_B27
    rw [rZ0 (hm.keep hz i1 (by simp)).1, if_neg (by omega)]
    exact hK s i1 (fun b hb => i2 b (by have := (hL b hb).1; omega) hb)
  · intro n i s q0 q1 ⟨i1, i2⟩ hr
    have hm' := hm.keep hz i1 (by simp)
    have ei : ((i.toNat : Nat) : Int) = i := by omega
    have lo := left_ok hm' (b := i.toNat) (by omega)
    rw [ei] at lo
    show wp (Ri_find_B27 _ _ _ _ _ _ _) _
    unfold Ri_find_B27
    rw [rZ0 hm'.1, if_pos q1, lo, Option.bind_some, wI_ok (x := i + 1) (by omega) (by omega)]
    by_cases c : L.testBit i.toNat = true
    · have pw := wp_pointedC h hz hm' c
      rw [ei] at pw
      rw [if_pos c, if_neg n10]
      refine wp_bm pw (fun t ⟨t1, t2⟩ => ?_)
      rw [wr_ok q0 (by omega)]
      refine hr _ ⟨(i1.trans (t2.mono (by simp))).put (by simp), fun b hb hb2 => ?_⟩
      by_cases e : (b : Int) = i
      · have eb : b = i.toNat := by omega
        subst eb
        rw [ei, ru3 rfl rfl, t1]
      · rw [ru2 e, t2 48 (by simp; omega)]
        exact i2 b (by omega) hb2
    · rw [if_neg c, if_pos p00]
      refine hr s ⟨i1, fun b hb hb2 => ?_⟩
      by_cases e : (b : Int) = i
      · have eb : b = i.toNat := by omega
        subst eb
        exact absurd hb2 c
      · exact i2 b (by omega) hb2
theorem wp_ringL {Z S mM : zM} {z : Nat} {bk : Int} (h : GG Z S mM bk 0) (hz : z = 55 ∨ z = 72) : ∀ (d L n : Nat) (r : Int) (G V : Nat → Int) (m : zM), 1 ≤ r → r + d = 7 → d < n → roC Z S m z L → (∀ b : Nat, (b : Int) < Z 0 0 → m 46 b = G b ∧ m 47 b = V b) → wp (Ri_find_L10 n z 8 r m) (fun m' => eqO [29, 44, 46, 47, 48, z + 13] m m' ∧ ∀ b : Nat, (b : Int) < Z 0 0 → m' 46 b = (rnV (lhV Z S) (hdV Z S) (Z 0 0).toNat d L r G V).1 b ∧ m' 47 b = (rnV (lhV Z S) (hdV Z S) (Z 0 0).toNat d L r G V).2 b) := by
  have n1 := h.nb
  intro d
  induction d with
  | zero =>
    intro L n r G V m r0 r1 hn hm hg
    obtain ⟨n, rfl⟩ : ∃ k, n = k + 1 := ⟨n - 1, by omega⟩
    show wp (Ri_find_B10 _ _ _ _ _) _
    unfold Ri_find_B10
    rw [if_pos (by omega)]
    exact wp_some ⟨eqO.refl, hg⟩
  | succ d ih =>
    intro L n r G V m r0 r1 hn hm hg
    obtain ⟨n, rfl⟩ : ∃ k, n = k + 1 := ⟨n - 1, by omega⟩
    have eR : rnV (lhV Z S) (hdV Z S) (Z 0 0).toNat (d + 1) L r G V = if L = 0 then (G, V) else rnV (lhV Z S) (hdV Z S) (Z 0 0).toNat d (nxV (lhV Z S) (Z 0 0).toNat L) (r + 1) (fun b => gtV Z S L b (hdV Z S (pV (lhV Z S) (Z 0 0).toNat L b)) (G b)) (fun b => gtV Z S L b r (V b)) := rfl
    show wp (Ri_find_B10 _ _ _ _ _) _
    unfold Ri_find_B10
    rw [if_neg (by omega), hm.2.2.1]
    by_cases c : L = 0
    · rw [if_pos c] at eR
      rw [if_pos (by omega), eR]
      exact wp_some ⟨eqO.refl, hg⟩
    · rw [if_neg c] at eR
      rw [if_neg (by omega), eR]
      refine wp_ptsC h hz hm (fun m1 k1 p1 => ?_)
      have hm1 := hm.keep hz k1 (by simp)
      refine wp_bm (wp_leave (r := r) n1.1 n1.2 hz hm1 p1) (fun m2 ⟨k2, l2, g2⟩ => ?_)
      rw [wI_ok (by omega) (by omega)]
      have hm2 : roC Z S m2 z (nxV (lhV Z S) (Z 0 0).toNat L) := by
        obtain ⟨a1, a2, a3, a4, a5, a6⟩ := hm1
        exact ⟨by rw [← a1]; exact zv_eq fun q _ _ => k2 _ (by simp; omega), by rw [← a2]; exact sv_eq fun q _ => k2 _ (by simp; omega), l2, nx_lt a4, fun b hb => a5 b (nx_bit hb), fun b hb => by rw [k2 45 (by simp)]; exact a6 b hb⟩
      refine wp_mono (ih _ n (r + 1) _ _ m2 (by omega) (by omega) (by omega) hm2 (fun b hb => ?_)) (fun m' ⟨f1, f2⟩ => ⟨((k1.mono (by simp)).trans (k2.mono (by simp))).trans f1, f2⟩)
      have g := g2 b hb
      have g0 := hg b hb
      rw [k1 46 (by simp; omega), k1 47 (by simp; omega), g0.1, g0.2] at g
      exact g
theorem wp_ringC {Z S mM m : zM} {z : Nat} {bk : Int} (h : GG Z S mM bk 0) (hZ : zv m z = Z) (hS : sv m 8 = S) (hz : z = 55 ∨ z = 72) (hl : ∀ b g, 0 ≤ b → b < Z 0 0 → 0 ≤ g → g < Z 0 1 → m 26 (b * 8 + g) = LMV Z S b g) : wp (Ri_find z 8 m) (fun m' => eqO [29, 44, 45, 46, 47, 48, z + 13, z + 16] m m' ∧ ∀ b : Nat, (b : Int) < Z 0 0 → m' 45 b = hdV Z S b ∧ m' 46 b = (rnV (lhV Z S) (hdV Z S) (Z 0 0).toNat 6 (ltV (hdV Z S) (Z 0 0).toNat) 1 (fun _ => -1) (fun _ => -1)).1 b ∧ m' 47 b = (rnV (lhV Z S) (hdV Z S) (Z 0 0).toNat 6 (ltV (hdV Z S) (Z 0 0).toNat) 1 (fun _ => -1) (fun _ => -1)).2 b) := by
  have n1 := h.nb
  have l6 : ltV (hdV Z S) (Z 0 0).toNat < 2 ^ (Z 0 0).toNat := lt_lt _
  have p64 : 2 ^ (Z 0 0).toNat ≤ 64 := Nat.pow_le_pow_right (show 0 < 2 by decide) (show (Z 0 0).toNat ≤ 6 by omega)
  unfold Ri_find
  refine wp_bm (wp_hold h hZ hS hz hl) (fun m1 ⟨k1, l1, g1⟩ => ?_)
  have hm1 : roC Z S m1 z (ltV (hdV Z S) (Z 0 0).toNat) := by
    refine ⟨by rw [← hZ]; exact zv_eq fun q _ _ => k1 _ (by simp; omega), by rw [← hS]; exact sv_eq fun q _ => k1 _ (by simp; omega), l1, by omega, fun b hb => ?_, fun b hb => (g1 b hb).1⟩
    have lb := lt_bit b _ hb
    have hb2 := hd_b h (b := b) (by omega)
    exact ⟨lb.1, by have := lb.2; omega⟩
  refine wp_mono (wp_ringL h hz 6 _ 1000000 1 (fun _ => -1) (fun _ => -1) m1 (by omega) (by omega) (by omega) hm1 (fun b hb => (g1 b hb).2)) (fun m' ⟨f1, f2⟩ => ⟨(k1.mono (by simp)).trans (f1.mono (by simp)), fun b hb => ⟨?_, f2 b hb⟩⟩)
  rw [f1 45 (by simp; omega)]
  exact (g1 b hb).1
