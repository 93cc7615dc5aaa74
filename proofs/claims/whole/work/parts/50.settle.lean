/-! what becomes of an asking: as a change of the class's cells; the model's layer goes along -/
theorem frM.p27 {v i x : Int} {m m' : zM} (h : frM v m m') (h0 : 0 ≤ i) (h1 : i < 1) : frM v m (upm m' 27 (1 * v + i) x) := h.put (by omega) (by omega) (by show (1 : Int) * v ≤ _; omega) (by show _ < (1 : Int) * v + 1; omega)
theorem frM.p28 {v i x : Int} {m m' : zM} (h : frM v m m') (h0 : 0 ≤ i) (h1 : i < 1) : frM v m (upm m' 28 (1 * v + i) x) := h.put (by omega) (by omega) (by show (1 : Int) * v ≤ _; omega) (by show _ < (1 : Int) * v + 1; omega)
theorem frM.p29 {v i x : Int} {m m' : zM} (h : frM v m m') (h0 : 0 ≤ i) (h1 : i < 24) : frM v m (upm m' 29 (24 * v + i) x) := h.put (by omega) (by omega) (by show (24 : Int) * v ≤ _; omega) (by show _ < (24 : Int) * v + 24; omega)
theorem frM.p30 {v i x : Int} {m m' : zM} (h : frM v m m') (h0 : 0 ≤ i) (h1 : i < 8) : frM v m (upm m' 30 (8 * v + i) x) := h.put (by omega) (by omega) (by show (8 : Int) * v ≤ _; omega) (by show _ < (8 : Int) * v + 8; omega)
theorem frM.p31 {v i x : Int} {m m' : zM} (h : frM v m m') (h0 : 0 ≤ i) (h1 : i < 8) : frM v m (upm m' 31 (8 * v + i) x) := h.put (by omega) (by omega) (by show (8 : Int) * v ≤ _; omega) (by show _ < (8 : Int) * v + 8; omega)
theorem frM.p32 {v i x : Int} {m m' : zM} (h : frM v m m') (h0 : 0 ≤ i) (h1 : i < 18) : frM v m (upm m' 32 (18 * v + i) x) := h.put (by omega) (by omega) (by show (18 : Int) * v ≤ _; omega) (by show _ < (18 : Int) * v + 18; omega)
theorem frM.p33 {v i x : Int} {m m' : zM} (h : frM v m m') (h0 : 0 ≤ i) (h1 : i < 48) : frM v m (upm m' 33 (48 * v + i) x) := h.put (by omega) (by omega) (by show (48 : Int) * v ≤ _; omega) (by show _ < (48 : Int) * v + 48; omega)
theorem frM.p34 {v i x : Int} {m m' : zM} (h : frM v m m') (h0 : 0 ≤ i) (h1 : i < 48) : frM v m (upm m' 34 (48 * v + i) x) := h.put (by omega) (by omega) (by show (48 : Int) * v ≤ _; omega) (by show _ < (48 : Int) * v + 48; omega)
theorem frM.p35 {v i x : Int} {m m' : zM} (h : frM v m m') (h0 : 0 ≤ i) (h1 : i < 1) : frM v m (upm m' 35 (1 * v + i) x) := h.put (by omega) (by omega) (by show (1 : Int) * v ≤ _; omega) (by show _ < (1 : Int) * v + 1; omega)
theorem frM.p36 {v i x : Int} {m m' : zM} (h : frM v m m') (h0 : 0 ≤ i) (h1 : i < 300) : frM v m (upm m' 36 (300 * v + i) x) := h.put (by omega) (by omega) (by show (300 : Int) * v ≤ _; omega) (by show _ < (300 : Int) * v + 300; omega)
theorem frM.q27 {v x : Int} {m m' : zM} (h : frM v m m') : frM v m (upm m' 27 v x) := h.put (by omega) (by omega) (by show (1 : Int) * v ≤ _; omega) (by show _ < (1 : Int) * v + 1; omega)
theorem frM.q28 {v x : Int} {m m' : zM} (h : frM v m m') : frM v m (upm m' 28 v x) := h.put (by omega) (by omega) (by show (1 : Int) * v ≤ _; omega) (by show _ < (1 : Int) * v + 1; omega)
theorem frM.q35 {v x : Int} {m m' : zM} (h : frM v m m') : frM v m (upm m' 35 v x) := h.put (by omega) (by omega) (by show (1 : Int) * v ≤ _; omega) (by show _ < (1 : Int) * v + 1; omega)
theorem SM.w5 {Z S mM : zM} {v i x : Int} (h : SM Z S mM v) (h0 : 0 ≤ x) (h1 : x ≤ 99) : SM Z (upm S 5 i x) (upm mM 33 (48 * v + i) x) v := by
  obtain ⟨a1, a2, a3, a4, a5, a6, a7, a8, a9, a10⟩ := h
  unfold SM RW
  simp (disch := decide) only [upm_ne, upm_eq]
  exact ⟨a1, a2, a3, a4, a5, a6, a7.set rfl h0 h1, a8, a9, a10⟩
theorem SM.w6 {Z S mM : zM} {v i x : Int} (h : SM Z S mM v) (h0 : 0 ≤ x) (h1 : x ≤ 99) : SM Z (upm S 6 i x) (upm mM 34 (48 * v + i) x) v := by
  obtain ⟨a1, a2, a3, a4, a5, a6, a7, a8, a9, a10⟩ := h
  unfold SM RW
  simp (disch := decide) only [upm_ne, upm_eq]
  exact ⟨a1, a2, a3, a4, a5, a6, a7, a8.set rfl h0 h1, a9, a10⟩
theorem SM.w3 {Z S mM : zM} {v i x : Int} (h : SM Z S mM v) (h0 : 0 ≤ x) (h1 : x ≤ 63) : SM Z (upm S 3 i x) (upm mM 31 (8 * v + i) x) v := by
  obtain ⟨a1, a2, a3, a4, a5, a6, a7, a8, a9, a10⟩ := h
  unfold SM RW
  simp (disch := decide) only [upm_ne, upm_eq]
  exact ⟨a1, a2, a3, a4, a5.set rfl h0 h1, a6, a7, a8, a9, a10⟩
theorem SM.w2 {Z S mM : zM} {v i x : Int} (h : SM Z S mM v) (h0 : -1 ≤ x) (h1 : x ≤ Z 0 0 - 1) : SM Z (upm S 2 i x) (upm mM 30 (8 * v + i) x) v := by
  obtain ⟨a1, a2, a3, a4, a5, a6, a7, a8, a9, a10⟩ := h
  unfold SM RW
  simp (disch := decide) only [upm_ne, upm_eq]
  exact ⟨a1, a2, a3, a4.set rfl h0 h1, a5, a6, a7, a8, a9, a10⟩
theorem SM.w1 {Z S mM : zM} {v i x : Int} (h : SM Z S mM v) (h0 : 0 ≤ x) (h1 : x ≤ 9) : SM Z (upm S 1 i x) (upm mM 29 (24 * v + i) x) v := by
  obtain ⟨a1, a2, a3, a4, a5, a6, a7, a8, a9, a10⟩ := h
  unfold SM RW
  simp (disch := decide) only [upm_ne, upm_eq]
  exact ⟨a1, a2, a3.set rfl h0 h1, a4, a5, a6, a7, a8, a9, a10⟩
theorem SM.w4 {Z S mM : zM} {v i x : Int} (h : SM Z S mM v) (h0 : 0 ≤ x) (h1 : x ≤ 9) : SM Z (upm S 4 i x) (upm mM 32 (18 * v + i) x) v := by
  obtain ⟨a1, a2, a3, a4, a5, a6, a7, a8, a9, a10⟩ := h
  unfold SM RW
  simp (disch := decide) only [upm_ne, upm_eq]
  exact ⟨a1, a2, a3, a4, a5, a6.set rfl h0 h1, a7, a8, a9, a10⟩
theorem SM.w02 {Z S mM : zM} {v x : Int} (h : SM Z S mM v) (h0 : 0 ≤ x) (h1 : x ≤ 9999) : SM Z (upm S 0 2 x) (upm mM 28 v x) v := by
  obtain ⟨a1, a2, a3, a4, a5, a6, a7, a8, a9, a10⟩ := h
  unfold SM RW
  simp (disch := decide) only [upm_ne, upm_eq, ru2, sets_eq, sets_ne]
  exact ⟨a1, ⟨trivial, h0, h1⟩, a3, a4, a5, a6, a7, a8, a9, a10⟩
def incS (S : zM) (b g : Int) : zM := upm (upm S 5 (b * 8 + g) (min 99 (S 5 (b * 8 + g) + 1))) 6 (b * 8 + g) (min 99 (S 6 (b * 8 + g) + 1))
def metS (Z S : zM) (b g : Int) : zM × Int :=
  if feV Z b g = 1 then (upm S 0 2 (min 9999 (S 0 2 + Z 0 17)), 0)
  else if LKV Z (incS S b g) b g < Z 0 15 then (upm (incS S b g) 3 g (orI (S 3 g) (slI 1 b)), 2)
  else if incS S b g 6 (b * 8 + g) < Z 0 16 then (incS S b g, 1)
  else (upm (incS S b g) 2 g b, 3)
def rowV (S : zM) (b g oc : Int) : Int := ((S 0 0 * 24 + S 0 1) * 6 * 8 + b * 8 + g) * 4 + oc
def keepS (S : zM) (b g oc : Int) : zM :=
  if S 0 11 < 60 then upm (upm S 7 ((S 0 10 + S 0 11) % 60) (rowV S b g oc)) 0 11 (S 0 11 + 1)
  else upm (upm S 7 ((S 0 10 + S 0 11) % 60) (rowV S b g oc)) 0 10 ((S 0 10 + 1) % 60)
def setS (Z S : zM) (b g : Int) : zM := keepS (metS Z S b g).1 b g (metS Z S b g).2
theorem or64 {x b : Int} (h0 : 0 ≤ x) (h1 : x ≤ 63) (b0 : 0 ≤ b) (b1 : b < 6) : 0 ≤ orI x (slI 1 b) ∧ orI x (slI 1 b) ≤ 63 := by
  have hh : ∀ n : Nat, n < 64 → ∀ k : Nat, k < 6 → 0 ≤ orI (n : Int) (slI 1 (k : Int)) ∧ orI (n : Int) (slI 1 (k : Int)) ≤ 63 := by decide +kernel
  have := hh x.toNat (by omega) b.toNat (by omega)
  rw [show ((x.toNat : Nat) : Int) = x from by omega, show ((b.toNat : Nat) : Int) = b from by omega] at this
  exact this
theorem GG.inc {Z S mM : zM} {bk v b g : Int} (h : GG Z S mM bk v) (b0 : 0 ≤ b) (b1 : b < Z 0 0) (g0 : 0 ≤ g) (g1 : g < Z 0 1) : GG Z (incS S b g) (upm (upm mM 33 (48 * v + (b * 8 + g)) (min 99 (S 5 (b * 8 + g) + 1))) 34 (48 * v + (b * 8 + g)) (min 99 (S 6 (b * 8 + g) + 1))) bk v := by
  have n1 := h.nb
  have n2 := h.ng
  have a1 := h.sa b0 b1 g0 g1
  have a2 := h.st b0 b1 g0 g1
  exact h.upd ((frM.refl.p33 (by omega) (by omega)).p34 (by omega) (by omega)) ((h.2.1.w5 (by omega) (by omega)).w6 (by omega) (by omega))
theorem MG_told {Z S mM : zM} {bk v w : Int} (h : GG Z S mM bk v) (w0 : 0 ≤ w) (w1 : w ≤ 4) : M_toldOf w mM = some (Z 0 (14 + w)) := by
  have n3 := h.bk
  obtain ⟨t0, t1, t2, t3, t4⟩ := h.1.2.2.2.2.2.2.2.2.2.2.2.2.1
  unfold M_toldOf
  rw [h.2.2.1, wI_ok (x := 5 * bk) (by omega) (by omega), wI_ok (by omega) (by omega), rd_ok (by omega) (by omega)]
  have : w = 0 ∨ w = 1 ∨ w = 2 ∨ w = 3 ∨ w = 4 := by omega
  rcases this with e | e | e | e | e <;> subst e
  · rw [Int.add_zero, t0.1]; rfl
  · rw [t1.1]; rfl
  · rw [t2.1]; rfl
  · rw [t3.1]; rfl
  · rw [t4.1]; rfl
theorem GG.set2 {Z S mM : zM} {b v : Int} (h : GG Z S mM b v) : (0 ≤ Z 0 15 ∧ Z 0 15 ≤ 99) ∧ (2 ≤ Z 0 16 ∧ Z 0 16 ≤ 9) ∧ (0 ≤ Z 0 17 ∧ Z 0 17 ≤ 99) ∧ (0 ≤ Z 0 18 ∧ Z 0 18 ≤ 100) := by
  obtain ⟨t0, t1, t2, t3, t4⟩ := h.1.2.2.2.2.2.2.2.2.2.2.2.2.1
  exact ⟨t1.2, t2.2, t3.2, t4.2⟩
theorem wp_comes {Z S mM : zM} {bk v b g : Int} (h : GG Z S mM bk v) (b0 : 0 ≤ b) (b1 : b < Z 0 0) (g0 : 0 ≤ g) (g1 : g < Z 0 1) : wp (M_comes v b g mM) (fun r => r.1 = (metS Z S b g).2 ∧ GG Z (metS Z S b g).1 r.2 bk v ∧ frM v mM r.2) := by
  have n1 := h.nb
  have n2 := h.ng
  have n3 := h.bk
  have st2 := h.set2
  have fe := h.2.1.2.1
  unfold M_comes
  rw [MG_feared h g0 g1, Option.bind_some]
  rcases an1 (srI (Z 9 g) b) with w | w
  · rw [if_pos (show feV Z b g = 0 from w), MG_pair h b0 b1 g0 g1, Option.bind_some, rd_ok (by omega) (by omega), rd_ok (by omega) (by omega), MG_saw h b0 b1 g0 g1]
    have em : metS Z S b g = (if LKV Z (incS S b g) b g < Z 0 15 then (upm (incS S b g) 3 g (orI (S 3 g) (slI 1 b)), 2) else if incS S b g 6 (b * 8 + g) < Z 0 16 then (incS S b g, 1) else (upm (incS S b g) 2 g b, 3)) := by
      unfold metS
      rw [if_neg (show ¬ feV Z b g = 1 from by show ¬ anI (srI (Z 9 g) b) 1 = 1; omega)]
    have a1 := h.sa b0 b1 g0 g1
    have a2 := h.st b0 b1 g0 g1
    have hi := h.inc b0 b1 g0 g1
    have fi : frM v mM (upm (upm mM 33 (48 * v + (b * 8 + g)) (min 99 (S 5 (b * 8 + g) + 1))) 34 (48 * v + (b * 8 + g)) (min 99 (S 6 (b * 8 + g) + 1))) := (frM.refl.p33 (by omega) (by omega)).p34 (by omega) (by omega)
    have k121 : ∀ y, y = min 99 (S 6 (b * 8 + g) + 1) → wp (M_comes_b121 v b g (48 * v + (b * 8 + g)) 34 1056 (48 * v + (b * 8 + g)) y (upm mM 33 (48 * v + (b * 8 + g)) (min 99 (S 5 (b * 8 + g) + 1)))) (fun r => r.1 = (metS Z S b g).2 ∧ GG Z (metS Z S b g).1 r.2 bk v ∧ frM v mM r.2) := by
      intro y hy
      subst hy
      unfold M_comes_b121
      rw [wr_ok (by omega) (by omega)]
      refine wp_bm (wp_liked hi b0 b1 g0 g1) (fun r ⟨r1, r2⟩ => ?_)
      have h2 : GG Z (incS S b g) r.2 bk v := hi.keepM (r2.mono (by simp))
      have f2 : frM v mM r.2 := fi.trans (.ofO (r2.mono (by simp)))
      have i3 : incS S b g 3 g = S 3 g := by
        unfold incS
        rw [ru1 (by decide), ru1 (by decide)]
      rw [MG_told h2 (by omega) (by omega), Option.bind_some, r1, em]
      show wp (if LKV Z (incS S b g) b g < Z 0 15 then _ else _) _
      by_cases c1 : LKV Z (incS S b g) b g < Z 0 15
      · rw [if_pos c1, if_pos c1, wI_ok (x := 8 * v) (by omega) (by omega), wI_ok (x := 8 * v + g) (by omega) (by omega), rd_ok (by omega) (by omega), wr_ok (by omega) (by omega), h2.2.1.2.2.2.2.1.at (i := g) ⟨g0, g1⟩ rfl, i3]
        have sb := h.sb g0 g1
        have ob := or64 sb.1 sb.2 b0 (by omega)
        exact wp_some ⟨rfl, h2.upd (frM.refl.p31 g0 (by omega)) (h2.2.1.w3 ob.1 ob.2), f2.p31 g0 (by omega)⟩
      · rw [if_neg c1, if_neg c1, rd_ok (by omega) (by omega), MG_told h2 (by omega) (by omega), Option.bind_some, MG_today h2 b0 b1 g0 g1]
        show wp (if incS S b g 6 (b * 8 + g) < Z 0 16 then _ else _) _
        by_cases c2 : incS S b g 6 (b * 8 + g) < Z 0 16
        · rw [if_pos c2, if_pos c2]
          exact wp_some ⟨rfl, h2, f2⟩
        · rw [if_neg c2, if_neg c2, wI_ok (x := 8 * v) (by omega) (by omega), wI_ok (x := 8 * v + g) (by omega) (by omega), wr_ok (by omega) (by omega)]
          exact wp_some ⟨rfl, h2.upd (frM.refl.p30 g0 (by omega)) (h2.2.1.w2 (by omega) (by omega)), f2.p30 g0 (by omega)⟩
    have k88 : ∀ y, y = min 99 (S 5 (b * 8 + g) + 1) → wp (M_comes_b88 v b g (48 * v + (b * 8 + g)) 33 1056 (48 * v + (b * 8 + g)) y mM) (fun r => r.1 = (metS Z S b g).2 ∧ GG Z (metS Z S b g).1 r.2 bk v ∧ frM v mM r.2) := by
      intro y hy
      subst hy
      unfold M_comes_b88
      rw [wr_ok (by omega) (by omega), rd_ok (by omega) (by omega), rd_ok (by omega) (by omega), ru1 (by decide), MG_today h b0 b1 g0 g1]
      by_cases c : S 6 (b * 8 + g) < 99
      · rw [if_pos c, wI_ok (x := S 6 (b * 8 + g) + 1) (by omega) (by omega)]
        exact k121 _ (by omega)
      · rw [if_neg c]
        exact k121 _ (by omega)
    by_cases c : S 5 (b * 8 + g) < 99
    · rw [if_pos c, wI_ok (x := S 5 (b * 8 + g) + 1) (by omega) (by omega)]
      exact k88 _ (by omega)
    · rw [if_neg c]
      exact k88 _ (by omega)
  · rw [if_neg (show ¬ feV Z b g = 0 from by show ¬ anI (srI (Z 9 g) b) 1 = 0; omega), rd_ok (by omega) (by omega), MG_told h (by omega) (by omega), Option.bind_some, lt_ok, fe.1]
    have em : metS Z S b g = (upm S 0 2 (min 9999 (S 0 2 + Z 0 17)), 0) := by
      unfold metS
      rw [if_pos (show feV Z b g = 1 from w)]
    have fin : ∀ y, y = min 9999 (S 0 2 + Z 0 17) → wp (wr 28 22 v y mM (fun m => some ((0 : Int), m))) (fun r => r.1 = (metS Z S b g).2 ∧ GG Z (metS Z S b g).1 r.2 bk v ∧ frM v mM r.2) := by
      intro y hy
      subst hy
      rw [wr_ok (by omega) (by omega), em]
      exact wp_some ⟨rfl, h.upd frM.refl.q28 (h.2.1.w02 (by omega) (by omega)), frM.refl.q28⟩
    show wp (if 9999 < wI (S 0 2 + Z 0 17) then _ else _) _
    rw [show Z 0 (14 + 3) = Z 0 17 from rfl, wI_ok (x := S 0 2 + Z 0 17) (by omega) (by omega)]
    by_cases c : 9999 < S 0 2 + Z 0 17
    · rw [if_pos c]
      exact fin _ (by omega)
    · rw [if_neg c]
      exact fin _ (by omega)
