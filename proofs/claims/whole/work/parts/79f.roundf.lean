/-! round -/
theorem wp_holdM {Z S mM : zM} {bk x1 x2 : Int} {K : Int → Int → Int → zM → Option (Int × zM)} {Q : Int × zM → Prop} (h : GG Z S mM bk 0) (hK : ∀ m1, eqO [37, 38, 46, 48, 49] mM m1 → (∀ b : Nat, (b : Int) < Z 0 0 → m1 46 b = hdV Z S b ∧ m1 48 b = -1 ∧ m1 49 b = -1) → wp (K x1 x2 (ltV (hdV Z S) (Z 0 0).toNat : Int) m1) Q) : wp (M_round_L24 K 1000000 x1 x2 0 0 mM) Q := by
  have n1 := h.nb
  have us := h.ush
  refine wp_for (fun n i (s : Int × zM) => M_round_L24 K n x1 x2 s.1 i s.2) (fun i s => s.1 = (ltV (hdV Z S) i.toNat : Int) ∧ eqO [37, 38, 46, 48, 49] mM s.2 ∧ ∀ b : Nat, (b : Int) < i → s.2 46 b = hdV Z S b ∧ s.2 48 b = -1 ∧ s.2 49 b = -1) _ 0 (Z 0 0) ?_ ?_ 1000000 0 (0, mM) (by omega) (by omega) (by omega) ⟨rfl, eqO.refl, fun b hb => by omega⟩
  · intro n s ⟨i1, i2, i3⟩
    have g' := h.keepR (i2.mono (by simp))
    show wp (M_round_B24 _ _ _ _ _ _ _) _
    unfold M_round_B24
    rw [rd_ok g'.rg.1 g'.rg.2.1, g'.rg.2.2.2, if_neg (by omega), i1]
    exact hK s.2 i2 i3
  · intro n i s q0 q1 ⟨i1, i2, i3⟩ hr
    have g' := h.keepR (i2.mono (by simp))
    have ei : ((i.toNat : Nat) : Int) = i := by omega
    have en : (i + 1).toNat = i.toNat + 1 := by omega
    have l6 : ltV (hdV Z S) i.toNat < 2 ^ i.toNat := lt_lt _
    have p64 : 2 ^ i.toNat ≤ 64 := Nat.pow_le_pow_right (show 0 < 2 by decide) (show i.toNat ≤ 6 by omega)
    have eL : ltV (hdV Z S) (i.toNat + 1) = if hdV Z S i.toNat = -1 then ltV (hdV Z S) i.toNat else ltV (hdV Z S) i.toNat ||| 2 ^ i.toNat := rfl
    have key : ∀ fr, fr = max 1 (Z 0 14) → wp (M_round_b66 K (M_round_L24 K n) x1 x2 s.1 i 46 6 i 0 i 0 fr s.2) Q := by
      intro fr hfr
      unfold M_round_b66
      refine wp_bm (wp_wished g' q0 q1 (by omega) (by omega)) (fun r ⟨r1, r2⟩ => ?_)
      have eh : r.1 = hdV Z S i.toNat := by
        rw [r1, hfr]
        unfold hdV
        rw [ei]
      rw [wr_ok q0 (by omega), wr_ok q0 (by omega), wr_ok q0 (by omega), rd_ok q0 (by omega), eh, wI_ok (x := i + 1) (by omega) (by omega)]
      have e46 : upm (upm (upm r.2 46 i (hdV Z S i.toNat)) 48 i (-1)) 49 i (-1) 46 i = hdV Z S i.toNat := by rw [ru1 (by decide), ru1 (by decide), ru3 rfl rfl]
      have e3 : eqO [37, 38, 46, 48, 49] mM (upm (upm (upm r.2 46 i (hdV Z S i.toNat)) 48 i (-1)) 49 i (-1)) := (((i2.trans (r2.mono (by simp))).put (by simp)).put (by simp)).put (by simp)
      have rows : ∀ b : Nat, (b : Int) < i + 1 → upm (upm (upm r.2 46 i (hdV Z S i.toNat)) 48 i (-1)) 49 i (-1) 46 b = hdV Z S b ∧ upm (upm (upm r.2 46 i (hdV Z S i.toNat)) 48 i (-1)) 49 i (-1) 48 b = -1 ∧ upm (upm (upm r.2 46 i (hdV Z S i.toNat)) 48 i (-1)) 49 i (-1) 49 b = -1 := by
        intro b hb
        by_cases e : (b : Int) = i
        · have eb : b = i.toNat := by omega
          subst eb
          rw [ei]
          exact ⟨e46, by rw [ru1 (by decide), ru3 rfl rfl], ru3 rfl rfl⟩
        · have p := i3 b (by omega)
          refine ⟨?_, ?_, ?_⟩
          · rw [ru1 (by decide), ru1 (by decide), ru2 e, r2 46 (by simp)]; exact p.1
          · rw [ru1 (by decide), ru2 e, ru1 (by decide), r2 48 (by simp)]; exact p.2.1
          · rw [ru2 e, ru1 (by decide), ru1 (by decide), r2 49 (by simp)]; exact p.2.2
      rw [e46]
      generalize upm (upm (upm r.2 46 i (hdV Z S i.toNat)) 48 i (-1)) 49 i (-1) = s3 at *
      by_cases c : hdV Z S i.toNat = -1
      · rw [if_pos c] at eL
        rw [if_pos c, i1, show (0 : Int) = ((0 : Nat) : Int) from rfl, orI_nat (by omega) (by omega), Nat.or_zero]
        exact hr (((ltV (hdV Z S) i.toNat : Nat) : Int), s3) ⟨by rw [en, eL], e3, rows⟩
      · rw [if_neg c] at eL
        have ev : slI 1 i = ((2 ^ i.toNat : Nat) : Int) := by rw [← slI_1 (by omega), ei]
        rw [if_neg c, i1, ev, orI_nat (by omega) (by omega), lt_ok]
        exact hr (((ltV (hdV Z S) i.toNat ||| 2 ^ i.toNat : Nat) : Int), s3) ⟨by rw [en, eL], e3, rows⟩
    show wp (M_round_B24 _ _ _ _ _ _ _) _
    unfold M_round_B24
    rw [rd_ok g'.rg.1 g'.rg.2.1, g'.rg.2.2.2, if_pos q1, MG_told g' (w := 0) (by omega) (by omega), Option.bind_some, show (14 : Int) + 0 = 14 from rfl]
    by_cases c : Z 0 14 = 0
    · rw [if_pos c]
      exact key 1 (by omega)
    · rw [if_neg c, Option.bind_some]
      exact key (Z 0 14) (by omega)
theorem rs_round {mC mM : zM} {x w : Int} (h : Rel mC mM) : wp (C_round x w mC) (fun a => wp (M_round x w mM) (fun b => a.1 = b.1 ∧ Rel a.2 b.2)) := by
  obtain ⟨z, Z, S, bk, hr⟩ := h.toZ
  obtain ⟨hz, h12, hs, hg, hu, hZ, hS⟩ := id hr
  have n1 := hg.nb
  unfold C_round M_round
  rw [mro_ok h12 (kdz hz), isBeast_ok hZ, MG_beast hg, Option.bind_some, Option.bind_some, is_ok, Option.bind_some]
  by_cases d : 0 ≤ x ∧ x < Z 0 0
  · rw [if_pos d, if_neg n10, if_neg n10, mro_ok h12 (kdz hz)]
    refine wp_bm (wp_weigh hg hZ hS (by omega) (by omega) (by omega)) (fun m1 ⟨k1, w1⟩ => ?_)
    rw [mro_ok (by rw [k1 0 (by simp)]; exact h12) (kdz hz)]
    have z1 : zv m1 z = Z := by rw [← hZ]; exact zv_eq fun q _ _ => k1 _ (by simp; omega)
    have s1 : sv m1 8 = S := by rw [← hS]; exact sv_eq fun q _ => k1 _ (by simp; omega)
    refine wp_bm (wp_ringC hg z1 s1 hz w1) (fun m2 ⟨k2, f2⟩ => ?_)
    have kk : eqO [26, 29, 44, 45, 46, 47, 48, z + 13, z + 16] mC m2 := (k1.mono (by simp)).trans (k2.mono (by simp))
    have f := f2 x.toNat (by omega)
    rw [show ((x.toNat : Nat) : Int) = x from by omega] at f
    by_cases c : 0 ≤ w ∧ w ≤ 2
    · have fin : ∀ y, (∀ m3 : zM, (∀ b : Nat, (b : Int) < Z 0 0 → m3 46 b = hdV Z S b) → (∀ b : Nat, (b : Int) < Z 0 0 → m3 48 b = (rnV (lhV Z S) (hdV Z S) (Z 0 0).toNat 6 (ltV (hdV Z S) (Z 0 0).toNat) 1 (fun _ => -1) (fun _ => -1)).1 b ∧ m3 49 b = (rnV (lhV Z S) (hdV Z S) (Z 0 0).toNat 6 (ltV (hdV Z S) (Z 0 0).toNat) 1 (fun _ => -1) (fun _ => -1)).2 b) → y = if w = 0 then m3 48 x else if w = 1 then m3 49 x else m3 46 x) → wp (M_round_L24 (fun x1_9 x2_9 x3_9 m10 => M_round_L117 (fun x1_11 x2_11 m12 => (if x2_11 = 0 then
  rd 48 6 x1_11 m12 (fun y14 =>
  some (y14, m12))
  else (if x2_11 = 1 then
  rd 49 6 x1_11 m12 (fun y16 =>
  some (y16, m12))
  else rd 46 6 x1_11 m12 (fun y17 =>
  some (y17, m12))))) 1000000 x1_9 x2_9 x3_9 1 m10) 1000000 x w 0 0 mM) (fun b => y = b.1 ∧ Rel m2 b.2) := by
        intro y hy
        refine wp_holdM hg (fun m3 k3 g3 => ?_)
        have l6 : ltV (hdV Z S) (Z 0 0).toNat < 2 ^ (Z 0 0).toNat := lt_lt _
        have p64 : 2 ^ (Z 0 0).toNat ≤ 64 := Nat.pow_le_pow_right (show 0 < 2 by decide) (show (Z 0 0).toNat ≤ 6 by omega)
        have hm3 : roM Z S m3 bk (ltV (hdV Z S) (Z 0 0).toNat) := by
          refine ⟨hg.keepR (k3.mono (by simp)), by omega, fun b hb => ?_, fun b hb => (g3 b hb).1⟩
          have lb := lt_bit b _ hb
          have hb2 := hd_b hg (b := b) (by omega)
          exact ⟨lb.1, by have := lb.2; omega⟩
        refine wp_ringLM 6 _ 1000000 1 (fun _ => -1) (fun _ => -1) m3 (by omega) (by omega) (by omega) (pc_6 _ (by omega)) hm3 (fun b hb => (g3 b hb).2) (fun m4 k4 g4 => ?_)
        have hy4 := hy m4 (fun b hb => by rw [k4 46 (by simp)]; exact (g3 b hb).1) g4
        have rel : Rel m2 m4 := by
          subst hZ hS
          have hb := hg.2.2.1
          subst hb
          exact Rel.quietM hz hs hg hu kk (by simp) ((k3.mono (l' := [37, 38, 46, 47, 48, 49]) (by simp)).trans (k4.mono (by simp))) (by simp)
        show wp (if w = 0 then _ else _) _
        by_cases w0 : w = 0
        · rw [if_pos w0] at hy4
          rw [if_pos w0, rd_ok d.1 (by omega)]
          exact wp_some ⟨hy4, rel⟩
        · rw [if_neg w0] at hy4
          rw [if_neg w0]
          by_cases w1 : w = 1
          · rw [if_pos w1] at hy4
            rw [if_pos w1, rd_ok d.1 (by omega)]
            exact wp_some ⟨hy4, rel⟩
          · rw [if_neg w1] at hy4
            rw [if_neg w1, rd_ok d.1 (by omega)]
            exact wp_some ⟨hy4, rel⟩
      have ex : ((x.toNat : Nat) : Int) = x := by omega
      rw [if_pos c, if_neg n10]
      by_cases w0 : w = 0
      · rw [if_pos w0, rd_ok d.1 (by omega)]
        refine wp_some (fin _ (fun m3 a1 a2 => ?_))
        have a := (a2 x.toNat (by omega)).1
        rw [ex] at a
        rw [if_pos w0, a]
        exact f.2.1
      · rw [if_neg w0]
        by_cases w1 : w = 1
        · rw [if_pos w1, rd_ok d.1 (by omega)]
          refine wp_some (fin _ (fun m3 a1 a2 => ?_))
          have a := (a2 x.toNat (by omega)).2
          rw [ex] at a
          rw [if_neg w0, if_pos w1, a]
          exact f.2.2
        · rw [if_neg w1, if_pos (show w = 2 by omega), rd_ok d.1 (by omega)]
          refine wp_some (fin _ (fun m3 a1 a2 => ?_))
          have a := a1 x.toNat (by omega)
          rw [ex] at a
          rw [if_neg w0, if_neg w1, a]
          exact f.1
    · rw [if_neg (show ¬ w = 0 by omega), if_neg (show ¬ w = 1 by omega), if_neg (show ¬ w = 2 by omega), if_neg c, if_pos p00]
      refine wp_some (wp_some ⟨rfl, ?_⟩)
      subst hZ hS
      have hb := hg.2.2.1
      subst hb
      exact Rel.quietM (l2 := [37]) hz hs hg hu kk (by simp) eqO.refl (by simp)
  · rw [if_neg d, if_pos p00, if_pos p00]
    exact wp_some (wp_some ⟨rfl, h⟩)
