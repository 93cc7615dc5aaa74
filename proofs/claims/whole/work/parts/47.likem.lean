/-! the model's side of it -/
theorem MG_look {Z S mM : zM} {bk v g k : Int} (h : GG Z S mM bk v) (g0 : 0 ≤ g) (g1 : g < Z 0 1) (k0 : 0 ≤ k) (k1 : k < 3) : M_look v g k mM = some (S 1 (g * 3 + k)) := by
  have n2 := h.ng
  have n3 := h.bk
  unfold M_look
  rw [wI_ok (x := 24 * v) (by omega) (by omega), wI_ok (x := 3 * g) (by omega) (by omega), wI_ok (x := 24 * v + 3 * g) (by omega) (by omega), wI_ok (by omega) (by omega), rd_ok (by omega) (by omega)]
  rw [h.2.1.2.2.1.at (i := g * 3 + k) ⟨by omega, by omega⟩ (by omega)]
theorem MG_taste {Z S mM : zM} {bk v b k : Int} (h : GG Z S mM bk v) (g0 : 0 ≤ b) (g1 : b < Z 0 0) (k0 : 0 ≤ k) (k1 : k < 3) : M_tasteIn v b k mM = some (S 4 (b * 3 + k)) := by
  have n2 := h.nb
  have n3 := h.bk
  unfold M_tasteIn
  rw [wI_ok (x := 18 * v) (by omega) (by omega), wI_ok (x := 3 * b) (by omega) (by omega), wI_ok (x := 18 * v + 3 * b) (by omega) (by omega), wI_ok (by omega) (by omega), rd_ok (by omega) (by omega)]
  rw [h.2.1.2.2.2.2.2.1.at (i := b * 3 + k) ⟨by omega, by omega⟩ (by omega)]
theorem MG_hour {Z S mM : zM} {bk v : Int} (h : GG Z S mM bk v) : M_hourIn v mM = some (S 0 1) := by
  have n3 := h.bk
  have t := h.2.1.1
  unfold M_hourIn
  rw [rd_ok (by omega) (by omega), t.1, rmI_n (by omega) (by omega) (by omega) (by omega)]
  congr 1
  omega
theorem suiting_s {rec : Int → Int → Int → Int → Int → Option Int} {Z S mM : zM} {bk v b g k acc : Int} (h : GG Z S mM bk v) (b0 : 0 ≤ b) (b1 : b < Z 0 0) (g0 : 0 ≤ g) (g1 : g < Z 0 1) (k0 : 0 ≤ k) (k1 : k < 3) (a0 : 0 ≤ acc) (a1 : acc ≤ 200) : M_suiting_B6 rec v b g acc k mM = rec v b g (acc + S 1 (g * 3 + k) * S 4 (b * 3 + k)) (k + 1) := by
  have p := h.su b0 b1 g0 g1 k0 k1
  unfold M_suiting_B6
  rw [if_pos k1, MG_look h g0 g1 k0 k1, MG_taste h b0 b1 k0 k1, Option.bind_some, Option.bind_some, lt_ok, wI_ok (x := S 1 (g * 3 + k) * S 4 (b * 3 + k)) (by omega) (by omega), wI_ok (by omega) (by omega), wI_ok (by omega) (by omega)]
theorem suiting_ok {Z S mM : zM} {bk v b g : Int} (h : GG Z S mM bk v) (b0 : 0 ≤ b) (b1 : b < Z 0 0) (g0 : 0 ≤ g) (g1 : g < Z 0 1) : M_suiting v b g mM = some (suit S b g) := by
  have L : ∀ n, M_suiting_L6 mM (n + 3 + 1) v b g 0 0 = some (suit S b g) := by
    intro n
    have p1 := h.su b0 b1 g0 g1 (k := 0) (by omega) (by omega)
    have p2 := h.su b0 b1 g0 g1 (k := 0 + 1) (by omega) (by omega)
    show M_suiting_B6 _ _ _ _ _ _ _ = _
    rw [suiting_s h b0 b1 g0 g1 (by omega) (by omega) (by omega) (by omega)]
    show M_suiting_B6 _ _ _ _ _ _ _ = _
    rw [suiting_s h b0 b1 g0 g1 (by omega) (by omega) (by omega) (by omega)]
    show M_suiting_B6 _ _ _ _ _ _ _ = _
    rw [suiting_s h b0 b1 g0 g1 (by omega) (by omega) (by omega) (by omega)]
    show M_suiting_B6 _ _ _ _ _ _ _ = _
    unfold M_suiting_B6
    rw [if_neg (by omega), Int.zero_add]
    rfl
  exact L 999996
theorem MG_pair {Z S mM : zM} {bk v b g : Int} (h : GG Z S mM bk v) (b0 : 0 ≤ b) (b1 : b < Z 0 0) (g0 : 0 ≤ g) (g1 : g < Z 0 1) : M_pair v b g = some (48 * v + (b * 8 + g)) := by
  have n1 := h.nb
  have n2 := h.ng
  have n3 := h.bk
  unfold M_pair
  rw [wI_ok (x := 48 * v) (by omega) (by omega), wI_ok (x := 8 * b) (by omega) (by omega), wI_ok (x := 48 * v + 8 * b) (by omega) (by omega), wI_ok (by omega) (by omega)]
  congr 1
  omega
theorem MG_saw {Z S mM : zM} {bk v b g : Int} (h : GG Z S mM bk v) (b0 : 0 ≤ b) (b1 : b < Z 0 0) (g0 : 0 ≤ g) (g1 : g < Z 0 1) : mM 33 (48 * v + (b * 8 + g)) = S 5 (b * 8 + g) := h.2.1.2.2.2.2.2.2.1.at (pP_ok b0 b1 g0 g1 h.ng.2) rfl
theorem MG_today {Z S mM : zM} {bk v b g : Int} (h : GG Z S mM bk v) (b0 : 0 ≤ b) (b1 : b < Z 0 0) (g0 : 0 ≤ g) (g1 : g < Z 0 1) : mM 34 (48 * v + (b * 8 + g)) = S 6 (b * 8 + g) := h.2.1.2.2.2.2.2.2.2.1.at (pP_ok b0 b1 g0 g1 h.ng.2) rfl
/-- changes in the scratch of the model alone -/
theorem GG.keepM {Z S mM mM' : zM} {bk v : Int} (h : GG Z S mM bk v) (k : eqO [37, 38, 39, 40] mM mM') : GG Z S mM' bk v := by
  have e : ∀ a, a ∉ [37, 38, 39, 40] → mM' a = mM a := k
  obtain ⟨hz, hs, h1, h2, h3⟩ := h
  refine ⟨?_, ?_, by rw [e 0 (by simp)]; exact h1, h2, h3⟩
  · unfold ZM FR at hz ⊢
    rw [e 2 (by simp), e 3 (by simp), e 4 (by simp), e 5 (by simp), e 6 (by simp), e 7 (by simp), e 8 (by simp), e 9 (by simp), e 10 (by simp), e 11 (by simp), e 12 (by simp), e 13 (by simp), e 14 (by simp), e 15 (by simp), e 16 (by simp), e 17 (by simp), e 18 (by simp)]
    exact hz
  · unfold SM at hs ⊢
    rw [e 27 (by simp), e 28 (by simp), e 29 (by simp), e 30 (by simp), e 31 (by simp), e 32 (by simp), e 33 (by simp), e 34 (by simp), e 35 (by simp), e 36 (by simp)]
    exact hs
theorem wp_tells {Z S mM : zM} {bk v b g : Int} (h : GG Z S mM bk v) (b0 : 0 ≤ b) (b1 : b < Z 0 0) (g0 : 0 ≤ g) (g1 : g < Z 0 1) : wp (M_tells v b g mM) (fun m' => eqO [38] mM m' ∧ ∀ i, 0 ≤ i → i < 6 → m' 38 (i + 1) = scn S b g i) := by
  have n1 := h.nb
  have n2 := h.ng
  have n3 := h.bk
  have k0 : ∀ {m' : zM}, eqO [38] mM m' → GG Z S m' bk v := fun k => h.keepM (k.mono (by simp))
  have f1 : eqO [38] mM (upm mM 38 1 (suit S b g)) := eqO.refl.put (by simp)
  have f2 : eqO [38] mM (upm (upm mM 38 1 (suit S b g)) 38 2 (S 5 (b * 8 + g))) := f1.put (by simp)
  have f3 : eqO [38] mM (upm (upm (upm mM 38 1 (suit S b g)) 38 2 (S 5 (b * 8 + g))) 38 3 (S 0 1)) := f2.put (by simp)
  have f4 : eqO [38] mM (upm (upm (upm (upm mM 38 1 (suit S b g)) 38 2 (S 5 (b * 8 + g))) 38 3 (S 0 1)) 38 4 (S 1 (g * 3 + 0))) := f3.put (by simp)
  have f5 : eqO [38] mM (upm (upm (upm (upm (upm mM 38 1 (suit S b g)) 38 2 (S 5 (b * 8 + g))) 38 3 (S 0 1)) 38 4 (S 1 (g * 3 + 0))) 38 5 (S 1 (g * 3 + 1))) := f4.put (by simp)
  unfold M_tells
  rw [suiting_ok h b0 b1 g0 g1, Option.bind_some, wr_ok (by omega) (by omega), MG_pair h b0 b1 g0 g1, Option.bind_some, rd_ok (by omega) (by omega), wr_ok (by omega) (by omega), MG_saw (k0 f1) b0 b1 g0 g1, MG_hour (k0 f2), Option.bind_some, wr_ok (by omega) (by omega), MG_look (k0 f3) g0 g1 (by omega) (by omega), Option.bind_some, wr_ok (by omega) (by omega), MG_look (k0 f4) g0 g1 (by omega) (by omega), Option.bind_some, wr_ok (by omega) (by omega), MG_look (k0 f5) g0 g1 (by omega) (by omega), Option.bind_some, wr_ok (by omega) (by omega)]
  refine wp_some ⟨f5.put (by simp), ?_⟩
  intro i i0 i1
  have : i = 0 ∨ i = 1 ∨ i = 2 ∨ i = 3 ∨ i = 4 ∨ i = 5 := by omega
  rcases this with e | e | e | e | e | e <;> subst e <;> simp (disch := omega) only [ru2, ru3] <;> rfl
theorem told_ok {Z S mM : zM} {bk v w : Int} (h : GG Z S mM bk v) (hw : w = 0 ∨ w = 1) : M_isTold w mM = some (if mM 13 (2 * bk + w) = -1 then 0 else 1) := by
  have n3 := h.bk
  unfold M_isTold
  rw [h.2.2.1, wI_ok (x := 2 * bk) (by omega) (by omega), wI_ok (by omega) (by omega), rd_ok (by omega) (by omega)]
  split <;> rfl
theorem wp_liked {Z S mM : zM} {bk v b g : Int} (h : GG Z S mM bk v) (b0 : 0 ≤ b) (b1 : b < Z 0 0) (g0 : 0 ≤ g) (g1 : g < Z 0 1) : wp (M_liked v b g mM) (fun r => r.1 = LKV Z S b g ∧ eqO [37, 38] mM r.2) := by
  have n1 := h.nb
  have n2 := h.ng
  have n3 := h.bk
  have a1 := h.suit b0 b1 g0 g1
  have a2 := h.sa b0 b1 g0 g1
  have fl := h.likes.len
  unfold M_liked
  rw [told_ok h (Or.inl rfl), Option.bind_some]
  by_cases e : Z 11 1 = 0
  · rw [if_pos (fl.2.2.2.mp e), if_pos rfl, suiting_ok h b0 b1 g0 g1, Option.bind_some, MG_pair h b0 b1 g0 g1, Option.bind_some, rd_ok (by omega) (by omega), MG_saw h b0 b1 g0 g1, wI_ok (by omega) (by omega), nz_ok (by omega), dvI_n (by omega) (by omega) (by omega) (by omega)]
    exact wp_some ⟨by unfold LKV; rw [if_pos e], eqO.refl⟩
  · rw [if_neg (fun w => e (fl.2.2.2.mpr w)), if_neg (by decide)]
    refine wp_bm (wp_tells h b0 b1 g0 g1) (fun m1 ⟨k1, k2⟩ => ?_)
    have h' : GG Z S m1 bk v := h.keepM (k1.mono (by simp))
    refine wp_bm (wp_reckons (sc := scn S b g) h'.likes (fl.2.2.1 e) (by omega) h.2.2.2.1 (Or.inl rfl) (fun i i0 i1 => h.scn b0 b1 g0 g1 i i0 i1) h'.2.2.1 k2) (fun r ⟨r1, r2⟩ => ?_)
    have f : eqO [37, 38] mM r.2 := (k1.mono (by simp)).trans (r2.mono (by simp))
    unfold LKV
    rw [if_neg e]
    generalize vlF (Z 11 1) (Z 12) (scn S b g) = x at *
    by_cases q1 : r.1 < 0
    · rw [if_pos q1]
      exact wp_some ⟨by show 0 = _; omega, f⟩
    · rw [if_neg q1]
      by_cases q2 : 999 < r.1
      · rw [if_pos q2]
        exact wp_some ⟨by show 999 = _; omega, f⟩
      · rw [if_neg q2]
        exact wp_some ⟨by show wI r.1 = _; rw [wI_ok (by omega) (by omega)]; omega, f⟩
theorem MG_feared {Z S mM : zM} {bk v b g : Int} (h : GG Z S mM bk v) (g0 : 0 ≤ g) (g1 : g < Z 0 1) : M_isFeared g b mM = some (feV Z b g) := by
  have n2 := h.ng
  have n3 := h.bk
  unfold M_isFeared
  rw [h.2.2.1, wI_ok (x := 8 * bk) (by omega) (by omega), wI_ok (by omega) (by omega), rd_ok (by omega) (by omega), M_has2_ok, h.1.2.2.2.2.2.2.2.2.1.at (i := g) ⟨g0, g1⟩ rfl]
  rfl
theorem wp_allowed {Z S mM : zM} {bk v b g fr : Int} (h : GG Z S mM bk v) (b0 : 0 ≤ b) (b1 : b < Z 0 0) (g0 : 0 ≤ g) (g1 : g < Z 0 1) (f0 : 0 ≤ fr) (f1 : fr ≤ 6) : wp (M_isAllowed v b g fr mM) (fun r => r.1 = mayV Z S b g fr ∧ eqO [37, 38] mM r.2) := by
  have fl := h.may.len
  have mb := h.mayb b0 b1 g0 g1 f0 f1
  unfold M_isAllowed
  rw [told_ok h (Or.inr rfl), Option.bind_some]
  by_cases e : Z 14 1 = 0
  · rw [if_pos (fl.2.2.2.mp e), if_pos rfl]
    exact wp_some ⟨by unfold mayV; rw [if_pos e], eqO.refl⟩
  · rw [if_neg (fun w => e (fl.2.2.2.mpr w)), if_neg (by decide)]
    refine wp_bm (wp_liked h b0 b1 g0 g1) (fun r ⟨r1, r2⟩ => ?_)
    have h1 : GG Z S r.2 bk v := h.keepM (r2.mono (by simp))
    refine wp_bm (wp_tells h1 b0 b1 g0 g1) (fun m1 ⟨k1, k2⟩ => ?_)
    have c1 : eqO [37, 38] mM m1 := r2.trans (k1.mono (by simp))
    have key : ∀ x, x = feV Z b g → wp (M_isAllowed_b55 fr 38 12 8 x (upm m1 38 7 (LKV Z S b g))) (fun r => r.1 = mayV Z S b g fr ∧ eqO [37, 38] mM r.2) := by
      intro x hx
      unfold M_isAllowed_b55
      rw [wr_ok (by omega) (by omega), wr_ok (by omega) (by omega)]
      have f2 : eqO [37, 38] mM (upm (upm (upm m1 38 7 (LKV Z S b g)) 38 8 x) 38 9 fr) := ((c1.put (by simp)).put (by simp)).put (by simp)
      have h2 : GG Z S (upm (upm (upm m1 38 7 (LKV Z S b g)) 38 8 x) 38 9 fr) bk v := h.keepM (f2.mono (by simp))
      refine wp_bm (wp_reckons (sc := scm Z S b g fr) h2.may (fl.2.2.1 e) (by omega) h.2.2.2.1 (Or.inr rfl) (fun i i0 i1 => h.scm b0 b1 g0 g1 f0 f1 i i0 i1) h2.2.2.1 ?_) (fun r ⟨r1, r2⟩ => ?_)
      · intro i i0 i1
        unfold CBeastsChooseLaw_law_r4116_dae0f7.scm
        by_cases c6 : i = 6
        · subst c6; simp (disch := omega) only [ru2, ru3]; rfl
        · by_cases c7 : i = 7
          · subst c7; simp (disch := omega) only [ru2, ru3, hx]; rfl
          · by_cases c8 : i = 8
            · subst c8; simp (disch := omega) only [ru2, ru3]; rfl
            · simp (disch := omega) only [ru2]
              rw [if_neg c6, if_neg c7, if_neg c8]
              exact k2 i i0 (by omega)
      · have em : mayV Z S b g fr = r.1 := by unfold mayV; rw [if_neg e, r1]
        have f3 : eqO [37, 38] mM r.2 := f2.trans (r2.mono (by simp))
        rw [em] at mb ⊢
        by_cases w : r.1 = 1
        · rw [if_pos w]; exact wp_some ⟨w.symm, f3⟩
        · rw [if_neg w]; exact wp_some ⟨by show 0 = r.1; omega, f3⟩
    rw [wr_ok (by omega) (by omega), r1]
    have h3 : GG Z S (upm m1 38 7 (LKV Z S b g)) bk v := h.keepM ((c1.put (by simp)).mono (by simp))
    rw [MG_feared h3 g0 g1, Option.bind_some]
    rcases an1 (srI (Z 9 g) b) with w | w
    · rw [if_pos (show feV Z b g = 0 from w)]; exact key 0 (show (0 : Int) = feV Z b g from w.symm)
    · rw [if_neg (show ¬ feV Z b g = 0 from by show ¬ anI (srI (Z 9 g) b) 1 = 0; omega)]; exact key 1 (show (1 : Int) = feV Z b g from w.symm)
theorem is_ok {x a b : Int} : M_is x a b = some (if a ≤ x ∧ x ≤ b then 1 else 0) := by
  unfold M_is
  by_cases h1 : x < a
  · rw [if_pos h1, if_neg (by omega)]
  · rw [if_neg h1]
    by_cases h2 : b < x
    · rw [if_pos h2, if_neg (by omega)]
    · rw [if_neg h2, if_pos (by omega)]
theorem MG_awake {Z S mM : zM} {bk v b : Int} (h : GG Z S mM bk v) (b0 : 0 ≤ b) (b1 : b < Z 0 0) : M_isAwake v b mM = some (if awV Z S b = true then 1 else 0) := by
  have n1 := h.nb
  have n3 := h.bk
  unfold M_isAwake
  rw [MG_hour h, Option.bind_some, h.2.2.1, wI_ok (x := 6 * bk) (by omega) (by omega), wI_ok (by omega) (by omega), rd_ok (by omega) (by omega), rd_ok (by omega) (by omega), h.1.2.2.1.at (i := b) ⟨b0, b1⟩ rfl, h.1.2.2.2.1.at (i := b) ⟨b0, b1⟩ rfl, is_ok]
  unfold awV
  simp only [decide_eq_true_eq]
  rfl
theorem MG_there {Z S mM : zM} {bk v g : Int} (h : GG Z S mM bk v) (g0 : 0 ≤ g) (g1 : g < Z 0 1) : M_isThere v g mM = some (if thV Z S g = true then 1 else 0) := by
  have n1 := h.ng
  have n3 := h.bk
  unfold M_isThere
  rw [MG_hour h, Option.bind_some, h.2.2.1, wI_ok (x := 8 * bk) (by omega) (by omega), wI_ok (by omega) (by omega), rd_ok (by omega) (by omega), rd_ok (by omega) (by omega), h.1.2.2.2.2.2.2.1.at (i := g) ⟨g0, g1⟩ rfl, h.1.2.2.2.2.2.2.2.1.at (i := g) ⟨g0, g1⟩ rfl, is_ok]
  unfold thV
  simp only [decide_eq_true_eq]
  rfl
theorem MG_open {Z S mM : zM} {bk v b g : Int} (h : GG Z S mM bk v) (g0 : 0 ≤ g) (g1 : g < Z 0 1) : M_isOpenTo v b g mM = some (if opV Z S b g = true then 1 else 0) := by
  have n1 := h.ng
  have n3 := h.bk
  unfold M_isOpenTo
  rw [MG_there h g0 g1, Option.bind_some, wI_ok (x := 8 * v) (by omega) (by omega), wI_ok (x := 8 * v + g) (by omega) (by omega), rd_ok (by omega) (by omega), rd_ok (by omega) (by omega), M_has2_ok, Option.bind_some, h.2.1.2.2.2.1.at (i := g) ⟨g0, g1⟩ rfl, h.2.1.2.2.2.2.1.at (i := g) ⟨g0, g1⟩ rfl]
  unfold opV
  by_cases h1 : thV Z S g = true
  · rw [if_pos h1, if_neg (by decide)]
    by_cases h4 : anI (srI (S 3 g) b) 1 = 0
    · rw [if_pos h4]
      by_cases h3 : S 2 g = -1
      · rw [if_pos h3, if_pos (by simp [h1, h3, h4])]
      · rw [if_neg h3, if_neg (by simp [h3])]
    · rw [if_neg h4, if_neg (by simp [h4])]
  · rw [if_neg h1, if_pos rfl, if_neg (by simp [h1])]
