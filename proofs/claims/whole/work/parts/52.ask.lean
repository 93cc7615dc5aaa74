def wr5 (r : Int → Int) (j dy hr b g oc : Int) : Int → Int := sets (sets (sets (sets (sets r j dy) (j + 1) hr) (j + 2) b) (j + 3) g) (j + 4) oc
theorem wr5_o {r : Int → Int} {j dy hr b g oc i : Int} (h : i < j ∨ j + 4 < i) : wr5 r j dy hr b g oc i = r i := by
  unfold wr5
  rw [sets_ne (by omega), sets_ne (by omega), sets_ne (by omega), sets_ne (by omega), sets_ne (by omega)]
theorem wr5_i {r : Int → Int} {j dy hr b g oc : Int} : wr5 r j dy hr b g oc j = dy ∧ wr5 r j dy hr b g oc (j + 1) = hr ∧ wr5 r j dy hr b g oc (j + 2) = b ∧ wr5 r j dy hr b g oc (j + 3) = g ∧ wr5 r j dy hr b g oc (j + 4) = oc := by
  unfold wr5
  refine ⟨?_, ?_, ?_, ?_, sets_eq⟩
  · rw [sets_ne (by omega), sets_ne (by omega), sets_ne (by omega), sets_ne (by omega), sets_eq]
  · rw [sets_ne (by omega), sets_ne (by omega), sets_ne (by omega), sets_eq]
  · rw [sets_ne (by omega), sets_ne (by omega), sets_eq]
  · rw [sets_ne (by omega), sets_eq]
theorem rowV_d {S : zM} {b g oc : Int} (d : 0 ≤ S 0 0 ∧ S 0 0 ≤ 999) (r : 0 ≤ S 0 1 ∧ S 0 1 ≤ 23) (b0 : 0 ≤ b) (b1 : b < 6) (g0 : 0 ≤ g) (g1 : g < 8) (c0 : 0 ≤ oc) (c1 : oc ≤ 3) : (0 ≤ rowV S b g oc ∧ rowV S b g oc < 4608000) ∧ rowV S b g oc / 4 / 48 / 24 = S 0 0 ∧ rowV S b g oc / 4 / 48 % 24 = S 0 1 ∧ rowV S b g oc / 4 / 8 % 6 = b ∧ rowV S b g oc / 4 % 8 = g ∧ rowV S b g oc % 4 = oc := by
  unfold rowV
  have e4 : (((S 0 0 * 24 + S 0 1) * 6 * 8 + b * 8 + g) * 4 + oc) / 4 = (S 0 0 * 24 + S 0 1) * 6 * 8 + b * 8 + g := by omega
  have e48 : ((S 0 0 * 24 + S 0 1) * 6 * 8 + b * 8 + g) / 48 = S 0 0 * 24 + S 0 1 := by omega
  have e8 : ((S 0 0 * 24 + S 0 1) * 6 * 8 + b * 8 + g) / 8 = (S 0 0 * 24 + S 0 1) * 6 + b := by omega
  rw [e4, e48, e8]
  refine ⟨⟨?_, ?_⟩, ?_, ?_, ?_, ?_, ?_⟩ <;> omega
theorem RW.one {S S' : zM} {r r' : Int → Int} {bs n b g oc : Int} (h : RW S r bs) (d : 0 ≤ S 0 0 ∧ S 0 0 ≤ 999) (q : 0 ≤ S 0 1 ∧ S 0 1 ≤ 23) (b0 : 0 ≤ b) (b1 : b < 6) (g0 : 0 ≤ g) (g1 : g < 8) (c0 : 0 ≤ oc) (c1 : oc ≤ 3) (hn : S' 0 11 = n + 1) (s : Int) (hold : ∀ k, 0 ≤ k → k < n → k + s < S 0 11 ∧ 0 ≤ s ∧ S' 7 ((S' 0 10 + k) % 60) = S 7 ((S 0 10 + (k + s)) % 60) ∧ ∀ c, 0 ≤ c → c < 5 → r' (bs + 5 * k + c) = r (bs + 5 * (k + s) + c)) (hnew : S' 7 ((S' 0 10 + n) % 60) = rowV S b g oc) (hr : r' (bs + 5 * n) = S 0 0 ∧ r' (bs + 5 * n + 1) = S 0 1 ∧ r' (bs + 5 * n + 2) = b ∧ r' (bs + 5 * n + 3) = g ∧ r' (bs + 5 * n + 4) = oc) : RW S' r' bs := by
  intro k k0 k1
  by_cases e : k = n
  · subst e
    rw [hnew]
    obtain ⟨r1, r2, r3, r4, r5⟩ := hr
    obtain ⟨v1, v2, v3, v4, v5, v6⟩ := rowV_d d q b0 b1 g0 g1 c0 c1
    rw [r1, r2, r3, r4, r5, v2, v3, v4, v5, v6]
    exact ⟨v1, rfl, rfl, rfl, rfl, rfl⟩
  · obtain ⟨h1, h2, h3, h4⟩ := hold k k0 (by omega)
    rw [h3]
    have w := h (k + s) (by omega) h1
    have z0 := h4 0 (by omega) (by omega)
    rw [Int.add_zero, Int.add_zero] at z0
    rw [z0, h4 1 (by omega) (by omega), h4 2 (by omega) (by omega), h4 3 (by omega) (by omega), h4 4 (by omega) (by omega)]
    exact w
theorem SM.row {Z S S' m m' : zM} {v : Int} (h : SM Z S m v) (k : ∀ a, a ≠ 35 → a ≠ 36 → m' a = m a) (e : ∀ a, a ≠ 0 → a ≠ 7 → S' a = S a) (e0 : S' 0 0 = S 0 0 ∧ S' 0 1 = S 0 1 ∧ S' 0 2 = S 0 2) (h35 : m' 35 v = S' 0 11 ∧ 0 ≤ S' 0 11 ∧ S' 0 11 ≤ 60 ∧ 0 ≤ S' 0 10 ∧ S' 0 10 ≤ 59) (hr : RW S' (m' 36) (300 * v)) : SM Z S' m' v := by
  obtain ⟨a1, a2, a3, a4, a5, a6, a7, a8, a9, a10⟩ := h
  unfold SM
  rw [k 27 (by decide) (by decide), k 28 (by decide) (by decide), k 29 (by decide) (by decide), k 30 (by decide) (by decide), k 31 (by decide) (by decide), k 32 (by decide) (by decide), k 33 (by decide) (by decide), k 34 (by decide) (by decide), e 1 (by decide) (by decide), e 2 (by decide) (by decide), e 3 (by decide) (by decide), e 4 (by decide) (by decide), e 5 (by decide) (by decide), e 6 (by decide) (by decide), e0.1, e0.2.1, e0.2.2]
  exact ⟨a1, a2, a3, a4, a5, a6, a7, a8, h35, hr⟩
theorem wp_writesDown {Z S mM : zM} {bk v b g oc : Int} (h : GG Z S mM bk v) (b0 : 0 ≤ b) (b1 : b < 6) (g0 : 0 ≤ g) (g1 : g < 8) (c0 : 0 ≤ oc) (c1 : oc ≤ 3) : wp (M_writesDown v b g oc mM) (fun m' => GG Z (keepS S b g oc) m' bk v ∧ frM v mM m') := by
  have n3 := h.bk
  have dd := h.dy
  have hh := h.hr
  obtain ⟨t1, _⟩ := h.2.1.1
  obtain ⟨k1, k2, k3, k4, k5⟩ := h.2.1.2.2.2.2.2.2.2.2.1
  have hrw := h.2.1.2.2.2.2.2.2.2.2.2
  unfold M_writesDown
  rw [rd_ok (by omega) (by omega), k1]
  by_cases c : S 0 11 < 60
  · rw [if_neg (by omega)]
    refine wp_mono (wp_write (S := S) (by omega) (by omega) t1 (by omega) (by omega) (by omega) (by omega) k1 k2 (by omega)) (fun m' hm => ?_)
    subst hm
    have ef : frM v mM (upm (upm (upm (upm (upm (upm mM 36 (300 * v + 5 * S 0 11) (S 0 0)) 36 (300 * v + 5 * S 0 11 + 1) (S 0 1)) 36 (300 * v + 5 * S 0 11 + 2) b) 36 (300 * v + 5 * S 0 11 + 3) g) 36 (300 * v + 5 * S 0 11 + 4) oc) 35 v (S 0 11 + 1)) := by
      refine (((((frM.refl.put ?_ ?_ ?_ ?_).put ?_ ?_ ?_ ?_).put ?_ ?_ ?_ ?_).put ?_ ?_ ?_ ?_).put ?_ ?_ ?_ ?_).q35
      all_goals (try rw [show lay 36 = 300 from rfl]); omega
    have e36 : (upm (upm (upm (upm (upm (upm mM 36 (300 * v + 5 * S 0 11) (S 0 0)) 36 (300 * v + 5 * S 0 11 + 1) (S 0 1)) 36 (300 * v + 5 * S 0 11 + 2) b) 36 (300 * v + 5 * S 0 11 + 3) g) 36 (300 * v + 5 * S 0 11 + 4) oc) 35 v (S 0 11 + 1)) 36 = wr5 (mM 36) (300 * v + 5 * S 0 11) (S 0 0) (S 0 1) b g oc := by
      rw [upm_ne (by decide), upm_eq, upm_eq, upm_eq, upm_eq, upm_eq]; rfl
    refine ⟨h.upd ef (h.2.1.row (fun a q1 q2 => ?_) (fun a q1 q2 => ?_) ?_ ?_ ?_), ef⟩
    · rw [upm_ne q1, upm_ne q2, upm_ne q2, upm_ne q2, upm_ne q2, upm_ne q2]
    · unfold keepS
      rw [if_pos c, upm_ne q1, upm_ne q2]
    · unfold keepS
      rw [if_pos c, ru2 (by decide), ru1 (by decide), ru2 (by decide), ru1 (by decide), ru2 (by decide), ru1 (by decide)]
      exact ⟨rfl, rfl, rfl⟩
    · unfold keepS
      rw [if_pos c, ru3 rfl rfl, ru3 rfl rfl, ru2 (by decide), ru1 (by decide)]
      exact ⟨rfl, by omega, by omega, k4, k5⟩
    · rw [e36]
      have s10 : keepS S b g oc 0 10 = S 0 10 := by unfold keepS; rw [if_pos c, ru2 (by decide), ru1 (by decide)]
      have s7 : ∀ i, keepS S b g oc 7 i = sets (S 7) ((S 0 10 + S 0 11) % 60) (rowV S b g oc) i := by intro i; unfold keepS; rw [if_pos c, upm_ne (by decide), upm_eq]
      refine hrw.one dd hh b0 b1 g0 g1 c0 c1 (n := S 0 11) ?_ 0 (fun k q0 q1 => ⟨by omega, by omega, ?_, fun c' r0 r1 => ?_⟩) ?_ ?_
      · unfold keepS; rw [if_pos c, ru3 rfl rfl]
      · rw [s10, s7, Int.add_zero, sets_ne (by omega)]
      · rw [wr5_o (by omega), Int.add_zero]
      · rw [s10, s7, sets_eq]
      · exact wr5_i
  · have e60 : S 0 11 = 60 := by omega
    rw [if_pos e60, lt_ok, wI_ok (x := 300 * v) (by omega) (by omega)]
    refine wp_shift (by omega) (by omega) ?_
    have x35 : stA mM 36 (shR (mM 36) (300 * v) (300 * v + 295)) 35 = mM 35 := stA_ne (by decide)
    have f1 : frM v mM (stA mM 36 (shR (mM 36) (300 * v) (300 * v + 295))) := frM.stA (by decide) (by decide) (fun i hi => by
      rw [show lay 36 = 300 from rfl] at hi
      exact if_neg (by omega))
    rw [rd_ok (by omega) (by omega), x35, k1, wI_ok (x := S 0 11 - 1) (by omega) (by omega), wr_ok (by omega) (by omega)]
    have x0 : ∀ x, upm (stA mM 36 (shR (mM 36) (300 * v) (300 * v + 295))) 35 v x 27 v = 24 * S 0 0 + S 0 1 := fun x => by rw [ru1 (by decide), stA_ne (by decide), t1]
    refine wp_mono (wp_write (S := S) (by omega) (by omega) (x0 _) (by omega) (by omega) (by omega) (by omega) (ru3 rfl rfl) (by omega) (by omega)) (fun m' hm => ?_)
    subst hm
    have ef : frM v mM (upm (upm (upm (upm (upm (upm (upm (stA mM 36 (shR (mM 36) (300 * v) (300 * v + 295))) 35 v (S 0 11 - 1)) 36 (300 * v + 5 * (S 0 11 - 1)) (S 0 0)) 36 (300 * v + 5 * (S 0 11 - 1) + 1) (S 0 1)) 36 (300 * v + 5 * (S 0 11 - 1) + 2) b) 36 (300 * v + 5 * (S 0 11 - 1) + 3) g) 36 (300 * v + 5 * (S 0 11 - 1) + 4) oc) 35 v (S 0 11 - 1 + 1)) := by
      refine ((((((f1.q35).put ?_ ?_ ?_ ?_).put ?_ ?_ ?_ ?_).put ?_ ?_ ?_ ?_).put ?_ ?_ ?_ ?_).put ?_ ?_ ?_ ?_).q35
      all_goals (try rw [show lay 36 = 300 from rfl]); omega
    have e36 : (upm (upm (upm (upm (upm (upm (upm (stA mM 36 (shR (mM 36) (300 * v) (300 * v + 295))) 35 v (S 0 11 - 1)) 36 (300 * v + 5 * (S 0 11 - 1)) (S 0 0)) 36 (300 * v + 5 * (S 0 11 - 1) + 1) (S 0 1)) 36 (300 * v + 5 * (S 0 11 - 1) + 2) b) 36 (300 * v + 5 * (S 0 11 - 1) + 3) g) 36 (300 * v + 5 * (S 0 11 - 1) + 4) oc) 35 v (S 0 11 - 1 + 1)) 36 = wr5 (shR (mM 36) (300 * v) (300 * v + 295)) (300 * v + 5 * (S 0 11 - 1)) (S 0 0) (S 0 1) b g oc := by
      rw [upm_ne (by decide), upm_eq, upm_eq, upm_eq, upm_eq, upm_eq, upm_ne (by decide), stA_eq]; rfl
    refine ⟨h.upd ef (h.2.1.row (fun a q1 q2 => ?_) (fun a q1 q2 => ?_) ?_ ?_ ?_), ef⟩
    · rw [upm_ne q1, upm_ne q2, upm_ne q2, upm_ne q2, upm_ne q2, upm_ne q2, upm_ne q1, stA_ne q2]
    · unfold keepS
      rw [if_neg c, upm_ne q1, upm_ne q2]
    · unfold keepS
      rw [if_neg c, ru2 (by decide), ru1 (by decide), ru2 (by decide), ru1 (by decide), ru2 (by decide), ru1 (by decide)]
      exact ⟨rfl, rfl, rfl⟩
    · unfold keepS
      rw [if_neg c, ru3 rfl rfl, ru2 (by decide), ru1 (by decide), ru3 rfl rfl]
      exact ⟨by omega, by omega, by omega, by omega, by omega⟩
    · rw [e36]
      have s10 : keepS S b g oc 0 10 = (S 0 10 + 1) % 60 := by unfold keepS; rw [if_neg c, ru3 rfl rfl]
      have s7 : ∀ i, keepS S b g oc 7 i = sets (S 7) ((S 0 10 + S 0 11) % 60) (rowV S b g oc) i := by intro i; unfold keepS; rw [if_neg c, upm_ne (by decide), upm_eq]
      refine hrw.one dd hh b0 b1 g0 g1 c0 c1 (n := S 0 11 - 1) ?_ 1 (fun k q0 q1 => ⟨by omega, by omega, ?_, fun c' r0 r1 => ?_⟩) ?_ ?_
      · unfold keepS; rw [if_neg c, ru2 (by decide), ru1 (by decide)]; omega
      · rw [s10, s7, sets_ne (by omega)]
        congr 1
        omega
      · rw [wr5_o (by omega)]
        unfold shR
        rw [if_pos (by omega)]
        congr 1
        omega
      · rw [s10, s7, show ((S 0 10 + 1) % 60 + (S 0 11 - 1)) % 60 = (S 0 10 + S 0 11) % 60 from by omega, sets_eq]
      · exact wr5_i
