/-! the tape: feed, end; letter; has -/
theorem Rel.tape {mC mC' mM mM' : zM} (h : Rel mC mM) (t : RT (mC' 3) (mC' 2 1) (mM' 1) (mM' 0 1)) (f1 : ∀ a, a ≠ 2 → a ≠ 3 → mC' a = mC a) (f2 : ∀ a, a ≠ 0 → a ≠ 1 → mM' a = mM a) (f3 : ∀ j, j ≠ 1 → mM' 0 j = mM 0 j) : Rel mC' mM' := by
  obtain ⟨z, hs, hn, hu⟩ := h
  have hz := hs.2.2.1.1
  have ez : zv mC' z = zv mC z := zv_eq fun k _ _ => f1 _ (by omega) (by omega)
  have n1 : zv mC z 0 0 ≤ 6 := hs.2.2.1.2.2.2.2.1.2.2
  have n2 : zv mC z 0 1 ≤ 8 := hs.2.2.1.2.2.2.2.2.1.2.2
  refine ⟨z, ?_, ?_, ?_⟩
  · obtain ⟨a1, a2, a3, a4, a5, a6, a7, a8⟩ := hs
    unfold RS RZ RL RI
    rw [ez, f1 1 (by decide) (by decide), f1 0 (by decide) (by decide), f1 40 (by decide) (by decide), f1 42 (by decide) (by decide), f1 52 (by decide) (by decide), f1 53 (by decide) (by decide), f1 54 (by decide) (by decide), f1 7 (by decide) (by decide), f2 43 (by decide) (by decide), f2 44 (by decide) (by decide), f2 52 (by decide) (by decide), f2 26 (by decide) (by decide), f3 10 (by decide), f3 11 (by decide), f3 13 (by decide), f3 58 (by decide), f3 65 (by decide), f3 76 (by decide)]
    exact ⟨t, a2, ⟨a3.1, a3.2.1, a3.2.2.1, a3.2.2.2.1, a3.2.2.2.2.same (fun a q1 q2 => f2 a (by omega) (by omega))⟩, a4, a5, a6, a7, a8⟩
  · rw [ez, sv_eq (m := mC) (m' := mC') (fun q _ => f1 _ (by omega) (by omega))]
    exact hn.same n1 n2 (fun a q1 q2 i _ _ => by rw [f2 a (by omega) (by omega)])
  · exact hu.keep n1 n2 (by rw [f1 0 (by decide) (by decide)]; exact ⟨rfl, rfl⟩) ez (fun a q => f1 a (by omega) (by omega)) ⟨f3 56 (by decide), f3 57 (by decide)⟩ (fun a q1 q2 i _ => by rw [f2 a (by omega) (by omega)])
theorem RT.push {tb ub : Int → Int} {tl ul x : Int} (h : RT tb tl ub ul) (h1 : tl < 1600) (x0 : 0 ≤ x) (x1 : x ≤ 255) : RT (sets tb tl x) (tl + 1) (sets ub ul x) (ul + 1) := by
  obtain ⟨a1, a2, a3, a4⟩ := h
  subst a1
  refine ⟨rfl, by omega, by omega, fun i i0 i1 => ?_⟩
  unfold sets
  by_cases e : i = tl
  · rw [if_pos e, if_pos e]; exact ⟨rfl, x0, x1⟩
  · rw [if_neg e, if_neg e]; exact a4 i i0 (by omega)
def frP (mC mC' mM mM' : zM) : Prop := (∀ a, a ≠ 2 → a ≠ 3 → mC' a = mC a) ∧ (∀ a, a ≠ 0 → a ≠ 1 → mM' a = mM a) ∧ ∀ j, j ≠ 1 → mM' 0 j = mM 0 j
theorem put_s {recC recM : Int → Int → zM → Option zM} {x s : Int} {mC mM : zM} (t : RT (mC 3) (mC 2 1) (mM 1) (mM 0 1)) (hl : mC 2 1 < 1600) (hs : s = 24 ∨ s = 16 ∨ s = 8 ∨ s = 0) : ∃ mC' mM', Ta_put_B3 recC x s mC = recC x (s - 8) mC' ∧ M_put_B3 recM x s mM = recM x (s - 8) mM' ∧ RT (mC' 3) (mC' 2 1) (mM' 1) (mM' 0 1) ∧ mC' 2 1 = mC 2 1 + 1 ∧ frP mC mC' mM mM' := by
  obtain ⟨a1, a2, a3, a4⟩ := id t
  have hb := an255 (srI x s)
  have hu : anI (usI x s) 255 = anI (srI x s) 255 := by
    rcases hs with e | e | e | e <;> subst e
    · exact us_sr x 24 (by decide)
    · exact us_sr x 16 (by decide)
    · exact us_sr x 8 (by decide)
    · exact us_sr x 0 (by decide)
  refine ⟨upm (upm mC 3 (mC 2 1) (anI (srI x s) 255)) 2 1 (mC 2 1 + 1), upm (upm mM 1 (mM 0 1) (anI (srI x s) 255)) 0 1 (mM 0 1 + 1), ?_, ?_, ?_, ?_, ?_⟩
  · unfold Ta_put_B3
    rw [if_neg (by omega), if_pos hl, wr_ok (by omega) (by omega), pf_ok, ru1 (by decide), hu, wI_ok (by omega) (by omega), wI_ok (by omega) (by omega), show s + -8 = s - 8 from by omega]
  · unfold M_put_B3
    rw [if_neg (by omega), wr_ok (by omega) (by omega), pf_ok, ru1 (by decide), wI_ok (by omega) (by omega), wI_ok (by omega) (by omega), show s + -8 = s - 8 from by omega]
  · rw [upm_ne (by decide), upm_eq, ru3 rfl rfl, upm_ne (by decide), upm_eq, ru3 rfl rfl]
    exact t.push hl hb.1 hb.2
  · exact ru3 rfl rfl
  · exact ⟨fun a q1 q2 => by rw [upm_ne q1, upm_ne q2], fun a q1 q2 => by rw [upm_ne q1, upm_ne q2], fun j hj => by rw [ru2 hj, ru1 (by decide)]⟩
theorem frP.trans {a a1 a2 b b1 b2 : zM} (h : frP a a1 b b1) (h2 : frP a1 a2 b1 b2) : frP a a2 b b2 := ⟨fun c q1 q2 => by rw [h2.1 c q1 q2, h.1 c q1 q2], fun c q1 q2 => by rw [h2.2.1 c q1 q2, h.2.1 c q1 q2], fun j hj => by rw [h2.2.2 j hj, h.2.2 j hj]⟩
theorem put_4 {x : Int} {mC mM : zM} (t : RT (mC 3) (mC 2 1) (mM 1) (mM 0 1)) (hl : mC 2 1 + 4 ≤ 1600) : ∃ mC' mM', Ta_put x mC = some mC' ∧ M_put x mM = some mM' ∧ RT (mC' 3) (mC' 2 1) (mM' 1) (mM' 0 1) ∧ mC' 2 1 = mC 2 1 + 4 ∧ frP mC mC' mM mM' := by
  obtain ⟨c1, m1, e1, f1, t1, l1, p1⟩ := put_s (recC := Ta_put_L3 999999) (recM := M_put_L3 999999) (x := x) (s := 24) t (by omega) (by omega)
  obtain ⟨c2, m2, e2, f2, t2, l2, p2⟩ := put_s (recC := Ta_put_L3 999998) (recM := M_put_L3 999998) (x := x) (s := 24 - 8) t1 (by omega) (by omega)
  obtain ⟨c3, m3, e3, f3, t3, l3, p3⟩ := put_s (recC := Ta_put_L3 999997) (recM := M_put_L3 999997) (x := x) (s := 24 - 8 - 8) t2 (by omega) (by omega)
  obtain ⟨c4, m4, e4, f4, t4, l4, p4⟩ := put_s (recC := Ta_put_L3 999996) (recM := M_put_L3 999996) (x := x) (s := 24 - 8 - 8 - 8) t3 (by omega) (by omega)
  refine ⟨c4, m4, ?_, ?_, t4, by omega, ((p1.trans p2).trans p3).trans p4⟩
  · have q1 : Ta_put_L3 999999 x (24 - 8) c1 = Ta_put_B3 (Ta_put_L3 999998) x (24 - 8) c1 := rfl
    have q2 : Ta_put_L3 999998 x (24 - 8 - 8) c2 = Ta_put_B3 (Ta_put_L3 999997) x (24 - 8 - 8) c2 := rfl
    have q3 : Ta_put_L3 999997 x (24 - 8 - 8 - 8) c3 = Ta_put_B3 (Ta_put_L3 999996) x (24 - 8 - 8 - 8) c3 := rfl
    have q4 : Ta_put_L3 999996 x (24 - 8 - 8 - 8 - 8) c4 = Ta_put_B3 (Ta_put_L3 999995) x (24 - 8 - 8 - 8 - 8) c4 := rfl
    show Ta_put_B3 (Ta_put_L3 999999) x 24 mC = _
    rw [e1, q1, e2, q2, e3, q3, e4, q4]
    unfold Ta_put_B3
    rw [if_pos (by omega)]
  · have q1 : M_put_L3 999999 x (24 - 8) m1 = M_put_B3 (M_put_L3 999998) x (24 - 8) m1 := rfl
    have q2 : M_put_L3 999998 x (24 - 8 - 8) m2 = M_put_B3 (M_put_L3 999997) x (24 - 8 - 8) m2 := rfl
    have q3 : M_put_L3 999997 x (24 - 8 - 8 - 8) m3 = M_put_B3 (M_put_L3 999996) x (24 - 8 - 8 - 8) m3 := rfl
    have q4 : M_put_L3 999996 x (24 - 8 - 8 - 8 - 8) m4 = M_put_B3 (M_put_L3 999995) x (24 - 8 - 8 - 8 - 8) m4 := rfl
    show M_put_B3 (M_put_L3 999999) x 24 mM = _
    rw [f1, q1, f2, q2, f3, q3, f4, q4]
    unfold M_put_B3
    rw [if_pos (by omega)]
theorem rs_feed {mC mM : zM} {x1 x2 x3 x4 x5 : Int} (h : Rel mC mM) : wp (C_feed x1 x2 x3 x4 x5 mC) (fun a => wp (M_feed x1 x2 x3 x4 x5 mM) (fun b => a.1 = b.1 ∧ Rel a.2 b.2)) := by
  have t : RT (mC 3) (mC 2 1) (mM 1) (mM 0 1) := by obtain ⟨z, hs, _⟩ := h; exact hs.1
  obtain ⟨a1, a2, a3, a4⟩ := id t
  unfold C_feed M_feed
  rw [wI_ok (by omega) (by omega)]
  by_cases c : 1580 < mC 2 1
  · rw [if_pos c, if_pos (by omega)]
    exact rs_none h (by decide) (by decide)
  · rw [if_neg c, if_neg (by omega)]
    obtain ⟨c1, m1, e1, f1, t1, l1, p1⟩ := put_4 (x := x1) t (by omega)
    obtain ⟨c2, m2, e2, f2, t2, l2, p2⟩ := put_4 (x := x2) t1 (by omega)
    obtain ⟨c3, m3, e3, f3, t3, l3, p3⟩ := put_4 (x := x3) t2 (by omega)
    obtain ⟨c4, m4, e4, f4, t4, l4, p4⟩ := put_4 (x := x4) t3 (by omega)
    obtain ⟨c5, m5, e5, f5, t5, l5, p5⟩ := put_4 (x := x5) t4 (by omega)
    rw [e1, f1, Option.bind_some, Option.bind_some, e2, f2, Option.bind_some, Option.bind_some, e3, f3, Option.bind_some, Option.bind_some, e4, f4, Option.bind_some, Option.bind_some, e5, f5, Option.bind_some, Option.bind_some]
    have p := (((p1.trans p2).trans p3).trans p4).trans p5
    exact wp_some (wp_some ⟨t5.1, h.tape t5 p.1 p.2.1 p.2.2⟩)
theorem rs_end {mC mM : zM} {n : Int} (h : Rel mC mM) : wp (C_end n mC) (fun a => wp (M_end n mM) (fun b => a.1 = b.1 ∧ Rel a.2 b.2)) := by
  have t : RT (mC 3) (mC 2 1) (mM 1) (mM 0 1) := by obtain ⟨z, hs, _⟩ := h; exact hs.1
  obtain ⟨a1, a2, a3, a4⟩ := id t
  unfold C_end M_end M_end_b12
  rw [← a1]
  by_cases c : n < 0
  · rw [if_pos c, if_pos c]
    exact rs_no h (by decide) (by decide)
  · rw [if_neg c, if_neg c]
    by_cases d : mC 2 1 < n
    · rw [if_pos d, if_pos d]
      exact rs_no h (by decide) (by decide)
    · rw [if_neg d, if_neg d]
      refine wp_some (wp_some ⟨rfl, ?_⟩)
      show Rel (upm mC 2 1 n) (upm mM 0 1 n)
      refine h.tape ?_ (fun a q1 q2 => upm_ne q1) (fun a q1 q2 => upm_ne q1) (fun j hj => ru2 hj)
      rw [upm_ne (by decide), ru3 rfl rfl, upm_ne (by decide), ru3 rfl rfl]
      exact ⟨rfl, by omega, by omega, fun i i0 i1 => a4 i i0 (by omega)⟩
/-- the tape is emptied in both -/
theorem Rel.empty {mC mM : zM} (h : Rel mC mM) : Rel (upm mC 2 1 0) (upm mM 0 1 0) := by
  refine h.tape ?_ (fun a q1 q2 => upm_ne q1) (fun a q1 q2 => upm_ne q1) (fun j hj => ru2 hj)
  rw [upm_ne (by decide), ru3 rfl rfl, upm_ne (by decide), ru3 rfl rfl]
  exact ⟨rfl, by omega, by omega, fun i i0 i1 => by omega⟩
/-! has -/
theorem gt_loop {mC mM Z S : zM} {z : Nat} {bk : Int} (h12 : mC 0 12 = (z : Int) + 1) (hz : z = 55 ∨ z = 72) (hZ : zv mC z = Z) (hS : sv mC 8 = S) (hg : GG Z S mM bk 0) : ∀ (d n k : Nat) (g x : Int), g + (d : Int) = Z 0 1 → 0 ≤ g → d < n → d < k → 0 ≤ x → x ≤ g → ∃ v, C_guestsThere_L4 mC n x g = some v ∧ M_has_L115 mM k x g = some v := by
  intro d
  have n2 := hg.ng
  have n3 := hg.bk
  induction d with
  | zero =>
    intro n k g x h0 g0 hn hk x0 x1
    obtain ⟨n, rfl⟩ : ∃ q, n = q + 1 := ⟨n - 1, by omega⟩
    obtain ⟨k, rfl⟩ : ∃ q, k = q + 1 := ⟨k - 1, by omega⟩
    refine ⟨x, ?_, ?_⟩
    · show C_guestsThere_B4 _ _ _ _ = _
      unfold C_guestsThere_B4
      rw [mro_ok h12 (kdz hz), rZ0 hZ, if_neg (by omega)]
    · show M_has_B115 _ _ _ _ = _
      unfold M_has_B115
      rw [hg.2.2.1, rd_ok (by omega) (by omega), hg.1.2.1.1, if_neg (by omega)]
  | succ d ih =>
    intro n k g x h0 g0 hn hk x0 x1
    obtain ⟨n, rfl⟩ : ∃ q, n = q + 1 := ⟨n - 1, by omega⟩
    obtain ⟨k, rfl⟩ : ∃ q, k = q + 1 := ⟨k - 1, by omega⟩
    have eC : C_guestsThere_L4 mC (n + 1) x g = if thV Z S g = true then C_guestsThere_L4 mC n (x + 1) (g + 1) else C_guestsThere_L4 mC n x (g + 1) := by
      show C_guestsThere_B4 _ _ _ _ = _
      unfold C_guestsThere_B4
      rw [mro_ok h12 (kdz hz), mro_ok h12 (kdz hz), rZ0 hZ, if_pos (by omega), there_ok hZ g0 (by omega), Option.bind_some, show mC 8 1 = S 0 1 from rS01 hS, wI_ok (by omega) (by omega), wI_ok (by omega) (by omega)]
      unfold thV
      by_cases q : Z 7 g ≤ S 0 1 ∧ S 0 1 ≤ Z 8 g
      · rw [if_pos q, if_neg n10, if_pos (decide_eq_true q)]
      · rw [if_neg q, if_pos p00, if_neg (fun t => q (of_decide_eq_true t))]
    have eM : M_has_L115 mM (k + 1) x g = if thV Z S g = true then M_has_L115 mM k (x + 1) (g + 1) else M_has_L115 mM k x (g + 1) := by
      show M_has_B115 _ _ _ _ = _
      unfold M_has_B115
      rw [hg.2.2.1, rd_ok (by omega) (by omega), hg.1.2.1.1, if_pos (by omega), MG_there hg g0 (by omega), Option.bind_some, lt_ok, lt_ok, wI_ok (by omega) (by omega), wI_ok (by omega) (by omega), wI_ok (by omega) (by omega), Int.add_zero]
      by_cases q : thV Z S g = true
      · rw [if_pos q, if_neg n10, if_pos q]
      · rw [if_neg q, if_pos p00, if_neg q]
    rw [eC, eM]
    by_cases q : thV Z S g = true
    · rw [if_pos q, if_pos q]
      exact ih n k (g + 1) (x + 1) (by omega) (by omega) (by omega) (by omega) (by omega) (by omega)
    · rw [if_neg q, if_neg q]
      exact ih n k (g + 1) x (by omega) (by omega) (by omega) (by omega) (by omega) (by omega)
theorem gk_loop {mC mM Z S : zM} {z : Nat} {bk : Int} (h12 : mC 0 12 = (z : Int) + 1) (hz : z = 55 ∨ z = 72) (hZ : zv mC z = Z) (hS : sv mC 8 = S) (hg : GG Z S mM bk 0) : ∀ (d n k : Nat) (g x : Int), g + (d : Int) = Z 0 1 → 0 ≤ g → d < n → d < k → 0 ≤ x → x ≤ g → ∃ v, C_guestsKept_L4 mC n x g = some v ∧ M_has_L155 mM k x g = some v := by
  intro d
  have n2 := hg.ng
  have n3 := hg.bk
  induction d with
  | zero =>
    intro n k g x h0 g0 hn hk x0 x1
    obtain ⟨n, rfl⟩ : ∃ q, n = q + 1 := ⟨n - 1, by omega⟩
    obtain ⟨k, rfl⟩ : ∃ q, k = q + 1 := ⟨k - 1, by omega⟩
    refine ⟨x, ?_, ?_⟩
    · show C_guestsKept_B4 _ _ _ _ = _
      unfold C_guestsKept_B4
      rw [mro_ok h12 (kdz hz), rZ0 hZ, if_neg (by omega)]
    · show M_has_B155 _ _ _ _ = _
      unfold M_has_B155
      rw [hg.2.2.1, rd_ok (by omega) (by omega), hg.1.2.1.1, if_neg (by omega)]
  | succ d ih =>
    intro n k g x h0 g0 hn hk x0 x1
    obtain ⟨n, rfl⟩ : ∃ q, n = q + 1 := ⟨n - 1, by omega⟩
    obtain ⟨k, rfl⟩ : ∃ q, k = q + 1 := ⟨k - 1, by omega⟩
    have eC : C_guestsKept_L4 mC (n + 1) x g = if S 2 g = -1 then C_guestsKept_L4 mC n x (g + 1) else C_guestsKept_L4 mC n (x + 1) (g + 1) := by
      show C_guestsKept_B4 _ _ _ _ = _
      unfold C_guestsKept_B4
      rw [mro_ok h12 (kdz hz), rZ0 hZ, if_pos (by omega), rd_ok g0 (by omega), show mC 10 g = S 2 g from rS2 (o := 8) hS g0 (by omega), wI_ok (by omega) (by omega), wI_ok (by omega) (by omega)]
    have eM : M_has_L155 mM (k + 1) x g = if S 2 g = -1 then M_has_L155 mM k x (g + 1) else M_has_L155 mM k (x + 1) (g + 1) := by
      show M_has_B155 _ _ _ _ = _
      unfold M_has_B155
      rw [hg.2.2.1, rd_ok (by omega) (by omega), hg.1.2.1.1, if_pos (by omega), rd_ok g0 (by omega), hg.2.1.2.2.2.1.at (i := g) (j := g) ⟨g0, by omega⟩ (by omega), lt_ok, lt_ok, wI_ok (by omega) (by omega), wI_ok (by omega) (by omega), wI_ok (by omega) (by omega), Int.add_zero]
    rw [eC, eM]
    by_cases q : S 2 g = -1
    · rw [if_pos q, if_pos q]
      exact ih n k (g + 1) x (by omega) (by omega) (by omega) (by omega) (by omega) (by omega)
    · rw [if_neg q, if_neg q]
      exact ih n k (g + 1) (x + 1) (by omega) (by omega) (by omega) (by omega) (by omega) (by omega)
theorem rs_has {mC mM : zM} {w : Int} (h : Rel mC mM) : wp (C_has w mC) (fun a => wp (M_has w mM) (fun b => a = b)) := by
  obtain ⟨z, Z, S, b, hr⟩ := h.toZ
  obtain ⟨hz, h12, hs, hg, hu, hZ, hS⟩ := id hr
  have n1 := hg.nb
  have n2 := hg.ng
  have n3 := hg.bk
  have hb := hg.2.2.1
  obtain ⟨t1, t2, t3, t4, t5⟩ := hg.2.1.1
  have f1 := hg.2.1.2.1
  obtain ⟨k1, k2, k3, k4, k5⟩ := hg.2.1.2.2.2.2.2.2.2.2.1
  obtain ⟨w1, w2, w3⟩ := hs.2.2.2.1
  obtain ⟨s1, s2, s3⟩ := hs.2.2.2.2.2.2.1
  have u4 := hu.2.1.1
  have z0 := hg.1.1.1
  have z1 := hg.1.2.1.1
  have c0 : mC z 0 = Z 0 0 := by rw [rZ0 hZ]
  have c1 : mC z 1 = Z 0 1 := by rw [rZ0 hZ]
  have c14 : mC z 14 = Z 0 14 := by rw [rZ0 hZ]
  have e0 : mC 8 0 = S 0 0 := rS00 hS
  have e1 : mC 8 1 = S 0 1 := rS01 hS
  have e2 : mC 8 2 = S 0 2 := rS02 hS
  have e11 : mC 8 11 = S 0 11 := rS0b hS
  have td := MG_told hg (w := 0) (by decide) (by decide)
  have hh := MG_hour hg
  have dv : dvI (24 * S 0 0 + S 0 1) 24 = S 0 0 := by rw [dvI_n (by omega) (by omega) (by omega) (by omega)]; omega
  unfold C_has M_has
  simp only [mro_ok h12 (kdz hz), hb, c0, c1, c14, e0, e1, e2, e11, td, hh]
  have : w = 0 ∨ w = 1 ∨ w = 2 ∨ w = 3 ∨ w = 4 ∨ w = 5 ∨ w = 6 ∨ w = 7 ∨ w = 8 ∨ w = 9 ∨ w = 10 ∨ w = 11 ∨ (w ≠ 0 ∧ w ≠ 1 ∧ w ≠ 2 ∧ w ≠ 3 ∧ w ≠ 4 ∧ w ≠ 5 ∧ w ≠ 6 ∧ w ≠ 7 ∧ w ≠ 8 ∧ w ≠ 9 ∧ w ≠ 10 ∧ w ≠ 11) := by omega
  rcases this with e | e | e | e | e | e | e | e | e | e | e | e | ⟨q0, q1, q2, q3, q4, q5, q6, q7, q8, q9, q10, q11⟩
  · subst e
    refine wp_ee (v := Z 0 0) rfl ?_
    simp only [↓reduceIte]
    rw [rd_ok (by omega) (by omega), z0]
  · subst e
    refine wp_ee (v := Z 0 1) rfl ?_
    simp only [Int.reduceEq, ↓reduceIte]
    rw [rd_ok (by omega) (by omega), z1]
  · subst e
    refine wp_ee (v := S 0 0) rfl ?_
    simp only [Int.reduceEq, ↓reduceIte]
    rw [rd_ok (by omega) (by omega), t1, dv]
  · subst e
    exact wp_ee (v := S 0 1) rfl rfl
  · subst e
    exact wp_ee (v := Z 0 14) rfl rfl
  · subst e
    refine wp_ee (v := S 0 2) rfl ?_
    simp only [Int.reduceEq, ↓reduceIte]
    rw [rd_ok (by omega) (by omega), f1.1]
  · subst e
    simp only [Int.reduceEq, ↓reduceIte]
    obtain ⟨v, v1, v2⟩ := gt_loop h12 hz hZ hS hg (Z 0 1).toNat 1000000 1000000 0 0 (by omega) (by omega) (by omega) (by omega) (by omega) (by omega)
    refine wp_ee (v := v) ?_ v2
    unfold C_guestsThere
    rw [v1]; rfl
  · subst e
    simp only [Int.reduceEq, ↓reduceIte]
    obtain ⟨v, v1, v2⟩ := gk_loop h12 hz hZ hS hg (Z 0 1).toNat 1000000 1000000 0 0 (by omega) (by omega) (by omega) (by omega) (by omega) (by omega)
    refine wp_ee (v := v) ?_ v2
    unfold C_guestsKept
    rw [v1]; rfl
  · subst e
    refine wp_ee (v := S 0 11) rfl ?_
    simp only [Int.reduceEq, ↓reduceIte]
    rw [rd_ok (by omega) (by omega), k1]
  · subst e
    refine wp_ee (v := mC 0 15) rfl ?_
    simp only [Int.reduceEq, ↓reduceIte]
    rw [u4]
  · subst e
    refine wp_ee (v := mC 0 16) rfl ?_
    simp only [Int.reduceEq, ↓reduceIte]
    rw [wI_ok (by omega) (by omega), s1]
  · subst e
    refine wp_ee (v := mC 40 0) rfl ?_
    simp only [Int.reduceEq, ↓reduceIte]
    rw [w1]
  · refine wp_ee (v := -1) ?_ ?_ <;> simp only [if_neg q0, if_neg q1, if_neg q2, if_neg q3, if_neg q4, if_neg q5, if_neg q6, if_neg q7, if_neg q8, if_neg q9, if_neg q10, if_neg q11]
