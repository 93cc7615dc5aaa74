/-! what can be undone; hours that go by -/
/-- all of the relation, with its zoo named -/
def RelZ (mC mM : zM) (z : Nat) (Z S : zM) (b : Int) : Prop := (z = 55 ∨ z = 72) ∧ mC 0 12 = (z : Int) + 1 ∧ RS mC mM z ∧ GG Z S mM b 0 ∧ RU mC mM z ∧ zv mC z = Z ∧ sv mC 8 = S
theorem RelZ.rel {mC mM : zM} {z : Nat} {Z S : zM} {b : Int} (h : RelZ mC mM z Z S b) : Rel mC mM := by
  obtain ⟨a1, a2, a3, a4, a5, a6, a7⟩ := h
  exact ⟨z, a3, by rw [a6, a7]; exact a4.2.1, a5⟩
theorem Rel.toZ {mC mM : zM} (h : Rel mC mM) : ∃ z Z S b, RelZ mC mM z Z S b := by
  obtain ⟨z, hz, h12, hs, hg, hu⟩ := h.parts
  exact ⟨z, _, _, _, hz, h12, hs, hg, hu, rfl, rfl⟩
theorem rs_remember {mC mM : zM} {z : Nat} {Z S : zM} {b : Int} (h : RelZ mC mM z Z S b) : wp (C_remember mC) (fun mC' => wp (M_keeps mM) (fun mM' => RelZ mC' mM' z Z S b)) := by
  obtain ⟨hz, h12, hs, hg, hu, hZ, hS⟩ := h
  obtain ⟨⟨u1, u2, u3⟩, ⟨u4, u5, u6⟩, u7⟩ := hu
  have n1 := hg.nb
  have n2 := hg.ng
  have hsm := hg.2.1
  unfold C_remember
  rw [wI_ok (by omega) (by omega), rmI_n (by omega) (by omega) (by omega) (by omega), gi_ok (by omega) (by omega)]
  generalize hi : (mC 0 14 + mC 0 15) % 20 = i at *
  have i0 : 0 ≤ i ∧ i < 20 := by omega
  refine wp_bm (wp_copyFrom (by omega)) (fun m1 ⟨e1, e2⟩ => ?_)
  have f0 : m1 0 = mC 0 := e2 0 (by simp; omega)
  have k1 : K1 z mC m1 := K1.ofO e2 (by simp; omega) hz
  have s8 : sv m1 8 = S := by rw [← hS]; exact sv_eq fun q hq => e2 _ (by simp; omega)
  have pst : ∀ j : Nat, j ≠ i.toNat → sv m1 (89 + 8 * j) = sv mC (89 + 8 * j) := fun j hj => sv_eq fun q hq => e2 _ (by simp; omega)
  rw [hS] at e1
  rw [f0]
  by_cases c : mC 0 15 < 20
  · rw [if_pos c, pf_ok, wI_ok (by omega) (by omega)]
    refine wp_some ?_
    unfold M_keeps M_keeps_b32 M_slot
    rw [if_neg (by omega), Option.bind_some, ← u1, ← u4, wI_ok (x := mC 0 14 + mC 0 15) (by omega) (by omega), rmI_n (by omega) (by omega) (by omega) (by omega), hi, wI_ok (x := 2 + i) (by omega) (by omega)]
    refine wp_bm (wp_copies hsm n1 n2 (to := 2 + i) (by omega) (by omega) (by omega) (by omega) (by omega)) (fun m2 ⟨q1, q2⟩ => ?_)
    have g0 : m2 0 = mM 0 := q2.1 0 (by omega)
    rw [g0, ← u4, wI_ok (by omega) (by omega), pf_ok]
    have k1' : K1 z mC (upm m1 0 15 (mC 0 15 + 1)) := k1.trans (K1.put0 (by decide) hz)
    have k2' : K2 mM (upm m2 0 57 (mC 0 15 + 1)) := (K2.ofA q2.A).trans (K2.put0 (by decide))
    have l0 : ∀ a, 27 ≤ a → a ≤ 36 → ∀ i', lay a * 0 ≤ i' → i' < lay a * 0 + lay a → upm m2 0 57 (mC 0 15 + 1) a i' = mM a i' := by
      intro a a1 a2 i' i1 i2
      rw [ru1 (by omega)]
      refine q2.2 a a1 a2 i' (Or.inl ?_)
      have : 1 ≤ lay a := by
        unfold lay
        repeat' split
        all_goals omega
      have : lay a * 2 ≤ lay a * (2 + i) := Int.mul_le_mul_of_nonneg_left (by omega) (by omega)
      omega
    refine wp_some ⟨hz, by rw [ru2 (by decide), f0]; exact h12, hs.keep k1' k2', ⟨?_, hsm.same n1.2 n2.2 l0, ?_, hg.2.2.2⟩, ?_, ?_, ?_⟩
    · exact hg.1.same (fun a a1 a2 => k2'.2.1 a (by omega) a2)
    · rw [k2'.1.2.2.2.1]; exact hg.2.2.1
    · unfold RU
      rw [k1'.2.2.2, hZ, ru2 (by decide), ru3 rfl rfl, ru2 (by decide), ru3 rfl rfl, f0, g0]
      refine ⟨⟨u1, u2, u3⟩, ⟨rfl, by omega, by omega⟩, fun k w0 w1 => ?_⟩
      have l2 : ∀ u, ∀ a, 27 ≤ a → a ≤ 36 → ∀ i', lay a * u ≤ i' → i' < lay a * u + lay a → upm m2 0 57 (mC 0 15 + 1) a i' = m2 a i' := fun u a a1 a2 i' _ _ => ru1 (by omega)
      by_cases e : k = mC 0 15
      · subst e
        rw [hi, sv_upm (by omega), e1]
        exact q1.same n1.2 n2.2 (l2 _)
      · rw [sv_upm (by omega), pst _ (by omega)]
        have w := u7 k w0 (by omega)
        rw [hZ] at w
        exact (w.frame n1.2 n2.2 q2.A (by omega)).same n1.2 n2.2 (l2 _)
    · rw [k1'.2.2.2, hZ]
    · rw [sv_upm (by omega), s8]
  · rw [if_neg c, pf_ok, wI_ok (by omega) (by omega), rmI_n (by omega) (by omega) (by omega) (by omega)]
    refine wp_some ?_
    have hii : i = mC 0 14 := by omega
    unfold M_keeps M_keeps_b32 M_slot
    rw [if_pos (by omega), ← u1, wI_ok (by omega) (by omega), rmI_n (by omega) (by omega) (by omega) (by omega), pf_ok, pf_ok, Option.bind_some]
    rw [ru2 (m := upm mM 0 56 ((mC 0 14 + 1) % 20)) (a := 0) (b := 0) (i := 57) (j := 56) (by decide), ru3 (m := mM) (a := 0) (b := 0) (i := 56) (j := 56) rfl rfl, ru3 (a := 0) (b := 0) (i := 57) (j := 57) rfl rfl, ru2 (m := mM) (a := 0) (b := 0) (i := 56) (j := 57) (by decide), ← u4, wI_ok (x := mC 0 15 - 1) (by omega) (by omega), wI_ok (x := (mC 0 14 + 1) % 20 + (mC 0 15 - 1)) (by omega) (by omega), rmI_n (by omega) (by omega) (by omega) (by omega), show ((mC 0 14 + 1) % 20 + (mC 0 15 - 1)) % 20 = i from by omega, wI_ok (x := 2 + i) (by omega) (by omega)]
    have hsm' : SM Z S (upm (upm mM 0 56 ((mC 0 14 + 1) % 20)) 0 57 (mC 0 15 - 1)) 0 := hsm.same n1.2 n2.2 (fun a a1 a2 i' _ _ => by rw [ru1 (by omega), ru1 (by omega)])
    refine wp_bm (wp_copies hsm' n1 n2 (to := 2 + i) (by omega) (by omega) (by omega) (by omega) (by omega)) (fun m2 ⟨q1, q2⟩ => ?_)
    have g0 : m2 0 57 = mC 0 15 - 1 := by rw [q2.1 0 (by omega), ru3 rfl rfl]
    have g1 : m2 0 56 = (mC 0 14 + 1) % 20 := by rw [q2.1 0 (by omega), ru2 (by decide), ru3 rfl rfl]
    rw [g0, wI_ok (by omega) (by omega), pf_ok, show mC 0 15 - 1 + 1 = mC 0 15 from by omega]
    have k1' : K1 z mC (upm m1 0 14 ((mC 0 14 + 1) % 20)) := k1.trans (K1.put0 (by decide) hz)
    have k2' : K2 mM (upm m2 0 57 (mC 0 15)) := (((K2.put0 (by decide)).trans (K2.put0 (by decide))).trans (K2.ofA q2.A)).trans (K2.put0 (by decide))
    have l0 : ∀ a, 27 ≤ a → a ≤ 36 → ∀ i', lay a * 0 ≤ i' → i' < lay a * 0 + lay a → upm m2 0 57 (mC 0 15) a i' = mM a i' := by
      intro a a1 a2 i' i1 i2
      rw [ru1 (by omega), q2.2 a a1 a2 i' (Or.inl ?_), ru1 (by omega), ru1 (by omega)]
      have : 1 ≤ lay a := by
        unfold lay
        repeat' split
        all_goals omega
      have : lay a * 2 ≤ lay a * (2 + i) := Int.mul_le_mul_of_nonneg_left (by omega) (by omega)
      omega
    refine wp_some ⟨hz, by rw [ru2 (by decide), f0]; exact h12, hs.keep k1' k2', ⟨?_, hsm.same n1.2 n2.2 l0, ?_, hg.2.2.2⟩, ?_, ?_, ?_⟩
    · exact hg.1.same (fun a a1 a2 => k2'.2.1 a (by omega) a2)
    · rw [k2'.1.2.2.2.1]; exact hg.2.2.1
    · unfold RU
      rw [k1'.2.2.2, hZ, ru3 rfl rfl, ru2 (by decide), ru2 (by decide), ru3 rfl rfl, f0, g1]
      refine ⟨⟨rfl, by omega, by omega⟩, ⟨rfl, by omega, by omega⟩, fun k w0 w1 => ?_⟩
      have l2 : ∀ u, ∀ a, 27 ≤ a → a ≤ 36 → ∀ i', lay a * u ≤ i' → i' < lay a * u + lay a → upm m2 0 57 (mC 0 15) a i' = m2 a i' := fun u a a1 a2 i' _ _ => ru1 (by omega)
      by_cases e : k = 19
      · subst e
        rw [show ((mC 0 14 + 1) % 20 + 19) % 20 = i from by omega, sv_upm (by omega), e1]
        exact q1.same n1.2 n2.2 (l2 _)
      · rw [sv_upm (by omega), pst _ (by omega)]
        have w := u7 (k + 1) (by omega) (by omega)
        rw [hZ, show (mC 0 14 + (k + 1)) % 20 = ((mC 0 14 + 1) % 20 + k) % 20 from by omega] at w
        have w' : SM Z (sv mC (89 + 8 * (((mC 0 14 + 1) % 20 + k) % 20).toNat)) (upm (upm mM 0 56 ((mC 0 14 + 1) % 20)) 0 57 (mC 0 15 - 1)) (2 + ((mC 0 14 + 1) % 20 + k) % 20) := w.same n1.2 n2.2 (fun a a1 a2 i' _ _ => by rw [ru1 (by omega), ru1 (by omega)])
        exact (w'.frame n1.2 n2.2 q2.A (by omega)).same n1.2 n2.2 (l2 _)
    · rw [k1'.2.2.2, hZ]
    · rw [sv_upm (by omega), s8]
/-- now has become S' in both -/
theorem RelZ.now {mC mC' mM mM' : zM} {z : Nat} {Z S S' : zM} {b : Int} {l : List Nat} (h : RelZ mC mM z Z S b) (k : eqO l mC mC') (hl : ∀ a ∈ l, (8 ≤ a ∧ a ≤ 39) ∨ a = 41 ∨ (43 ≤ a ∧ a ≤ 51) ∨ a = z + 13 ∨ a = z + 16) (f : frA 0 mM mM') (hS' : sv mC' 8 = S') (hsm : SM Z S' mM' 0) : RelZ mC' mM' z Z S' b := by
  obtain ⟨hz, h12, hs, hg, hu, hZ, hS⟩ := h
  have n1 := hg.nb
  have n2 := hg.ng
  have k1 : K1 z mC mC' := K1.ofO k (fun a w => by have := hl a w; omega) hz
  have k2 : K2 mM mM' := K2.ofA f
  have e0 : mC' 0 = mC 0 := k 0 (fun w => by have := hl 0 w; omega)
  have e0' : mM' 0 = mM 0 := f.1 0 (by omega)
  refine ⟨hz, by rw [e0]; exact h12, hs.keep k1 k2, hg.updA f hsm, ?_, by rw [k1.2.2.2, hZ], hS'⟩
  exact hu.keep (by rw [hZ]; exact n1.2) (by rw [hZ]; exact n2.2) (by rw [e0]; exact ⟨rfl, rfl⟩) k1.2.2.2 (fun a ha => k a (fun w => by have := hl a w; omega)) (by rw [e0']; exact ⟨rfl, rfl⟩) (fl_of f (by omega))
/-! hours -/
def cntV (Z S : zM) : Int := Z 0 14 - (chV Z S (Z 0 0).toNat).2
def playS (Z S : zM) : zM := overS (stlV Z S (Z 0 0).toNat)
def mom (S : zM) : Int := 24 * S 0 0 + S 0 1
theorem stl_mom {Z S mM : zM} {bk v : Int} (h : GG Z S mM bk v) : (stlV Z S (Z 0 0).toNat) 0 0 = S 0 0 ∧ (stlV Z S (Z 0 0).toNat) 0 1 = S 0 1 := by
  have n1 := h.nb
  exact (stl_ag h _ (by omega)).1.2
theorem over_mom {S : zM} (h1 : 0 ≤ S 0 1 ∧ S 0 1 ≤ 23) : mom (overS S) = mom S + 1 := by
  unfold mom overS
  by_cases c : S 0 1 < 23
  · rw [if_pos c, ru2 (by decide), ru3 rfl rfl]; omega
  · rw [if_neg c]
    unfold dawnS
    rw [stA_ne (by decide), stA_ne (by decide), stA_ne (by decide), ru3 rfl rfl, ru2 (by decide), ru3 rfl rfl]
    omega
theorem play_mom {Z S mM : zM} {bk v : Int} (h : GG Z S mM bk v) : mom (playS Z S) = mom S + 1 := by
  have e := stl_mom h
  unfold playS
  rw [over_mom (by rw [e.2]; exact h.hr)]
  unfold mom
  rw [e.1, e.2]
theorem wp_playHour {Z S mM m : zM} {z o : Nat} {bk v : Int} (h : GG Z S mM bk v) (hZ : zv m z = Z) (hS : sv m o = S) (hz : 55 ≤ z) (ho : o + 7 < 26) : wp (Ke_playHour z o m) (fun r => r.1 = cntV Z S ∧ sv r.2 o = playS Z S ∧ eqO [26, 27, 29, z + 13, z + 16, o, o + 2, o + 3, o + 5, o + 6, o + 7] m r.2) := by
  have n1 := h.nb
  have n2 := h.ng
  unfold Ke_playHour
  refine wp_bm (wp_weigh h hZ hS hz (by omega) (by omega)) (fun m1 ⟨a1, a2⟩ => ?_)
  have z1 : zv m1 z = Z := by rw [← hZ]; exact zv_eq fun k q1 q2 => a1 _ (by simp; omega)
  have s1 : sv m1 o = S := by rw [← hS]; exact sv_eq fun k q => a1 _ (by simp; omega)
  rw [show m1 z 0 = Z 0 0 from by rw [rZ0 z1]]
  refine wp_bm (wp_choose h z1 s1 hz (by omega) (by omega) (by rw [rZ0 z1]) n1.1 (by omega) a2) (fun m2 ⟨b1, b2, _⟩ => ?_)
  have z2 : zv m2 z = Z := by rw [← z1]; exact zv_eq fun k q1 q2 => b1 _ (by simp; omega)
  have s2 : sv m2 o = S := by rw [← s1]; exact sv_eq fun k q => b1 _ (by simp; omega)
  refine wp_bm (wp_settle h z2 s2 hz (by omega) (by omega) (by rw [rZ0 z2]; exact ⟨rfl, rfl, rfl⟩) b2) (fun r ⟨c1, c2, c3⟩ => ?_)
  have e := stl_mom h
  refine wp_bm (wp_passHour c2 (by rw [e.2]; exact h.hr) (by rw [e.1]; exact h.dy)) (fun m3 ⟨d1, d2⟩ => ?_)
  refine wp_some ⟨c1, d1, ?_⟩
  exact (((a1.mono (by simp)).trans (b1.mono (by simp))).trans (c3.mono (by simp))).trans (d2.mono (by simp))
/-- an hour of the model -/
theorem wp_hourM {Z S mM : zM} {bk v : Int} (h : GG Z S mM bk v) : wp (M_asking v mM) (fun r => r.1 = cntV Z S ∧ (mom S < 23999 → wp (M_isOver v r.2) (fun m' => GG Z (playS Z S) m' bk v ∧ frA v mM m'))) := by
  refine wp_mono (wp_asking h) (fun r ⟨r1, r2, r3, _⟩ => ⟨r1, fun hm => ?_⟩)
  have e := stl_mom h
  refine wp_mono (wp_isOver r2) (fun m' ⟨q1, q2⟩ => ⟨q2 (by rw [e.1, e.2]; exact hm), r3.trans q1.A⟩)
def hrS (Z S : zM) : Nat → zM
  | 0 => S
  | n + 1 => playS Z (hrS Z S n)
def hrC (Z S : zM) : Nat → Int
  | 0 => 0
  | n + 1 => hrC Z S n + cntV Z (hrS Z S n)
theorem hr_GG {Z S mM : zM} {bk v : Int} (h : GG Z S mM bk v) : ∀ n : Nat, mom S + (n : Int) ≤ 23999 → ∃ mM', GG Z (hrS Z S n) mM' bk v ∧ mom (hrS Z S n) = mom S + n
  | 0, _ => ⟨mM, h, by show mom S = mom S + 0; omega⟩
  | n + 1, hn => by
    obtain ⟨m1, h1, e1⟩ := hr_GG h n (by omega)
    obtain ⟨r, _, _, w⟩ := wp_hourM h1
    obtain ⟨m2, _, h2, _⟩ := w (by omega)
    exact ⟨m2, h2, by show mom (playS Z (hrS Z S n)) = _; rw [play_mom h1, e1]; omega⟩
theorem cnt_b {Z S mM : zM} {bk v : Int} (h : GG Z S mM bk v) : 0 ≤ cntV Z S ∧ cntV Z S ≤ 6 := by
  have u := h.ush
  have c := ch_b (S := S) u (Z 0 0).toNat
  have mono : ∀ n, (chV Z S n).2 ≤ Z 0 14 := by
    intro n
    induction n with
    | zero => exact Int.le_refl _
    | succ n ih =>
      unfold chV
      split
      · exact ih
      · show (chV Z S n).2 - 1 ≤ _
        omega
  have := mono (Z 0 0).toNat
  unfold cntV
  omega
theorem hrC_b {Z S mM : zM} {bk v : Int} (h : GG Z S mM bk v) : ∀ n : Nat, mom S + (n : Int) ≤ 23999 → 0 ≤ hrC Z S n ∧ hrC Z S n ≤ 6 * (n : Int)
  | 0, _ => ⟨Int.le_refl _, by show (0 : Int) ≤ _; omega⟩
  | n + 1, hn => by
    have ih := hrC_b h n (by omega)
    obtain ⟨m1, h1, e1⟩ := hr_GG h n (by omega)
    have := cnt_b h1
    unfold hrC
    omega
theorem ahead_ok {Z S mM : zM} {bk n lo hi : Int} (h : GG Z S mM bk 0) (hlo : 0 ≤ lo) (hhi : hi ≤ 200) : M_isAhead n lo hi mM = some (if lo ≤ n ∧ n ≤ hi ∧ n ≤ 23999 - mom S then 1 else 0) := by
  have t := h.2.1.1.1
  unfold M_isAhead
  rw [is_ok, Option.bind_some]
  unfold mom
  by_cases c : lo ≤ n ∧ n ≤ hi
  · rw [if_pos c, if_neg n10, rd_ok (by omega) (by omega), t, wI_ok (by omega) (by omega)]
    by_cases d : 23999 - n < 24 * S 0 0 + S 0 1
    · rw [if_pos d, if_neg (by omega)]
    · rw [if_neg d, if_pos (by omega)]
  · rw [if_neg c, if_pos p00, if_neg (by omega)]
theorem goBy_ok {Z S mM mC : zM} {bk n : Int} (h : GG Z S mM bk 0) (hS : sv mC 8 = S) : C_canGoBy n mC = some (if 1 ≤ n ∧ n ≤ 200 ∧ n ≤ 23999 - mom S then 1 else 0) := by
  have d := h.dy
  have r := h.hr
  unfold C_canGoBy St_moment mom
  rw [Option.bind_some, rS00 hS, rS01 hS, wI_ok (x := S 0 0 * 24) (by omega) (by omega), wI_ok (x := S 0 0 * 24 + S 0 1) (by omega) (by omega), wI_ok (by omega) (by omega)]
  by_cases c1 : n < 1
  · rw [if_pos c1, if_neg (by omega)]
  · rw [if_neg c1]
    by_cases c2 : 200 < n
    · rw [if_pos c2, if_neg (by omega)]
    · rw [if_neg c2]
      by_cases c3 : 23999 - (S 0 0 * 24 + S 0 1) < n
      · rw [if_pos c3, if_neg (by omega)]
      · rw [if_neg c3, if_pos (by omega)]
theorem rs_hours {mC mM : zM} {n : Int} (h : Rel mC mM) : wp (C_hours n mC) (fun a => wp (M_hours n mM) (fun b => a.1 = b.1 ∧ Rel a.2 b.2)) := by
  obtain ⟨z, Z, S, b, hr⟩ := h.toZ
  have hg := hr.2.2.2.1
  unfold C_hours M_hours
  rw [goBy_ok hg hr.2.2.2.2.2.2, ahead_ok hg (by omega) (by omega), Option.bind_some, Option.bind_some]
  by_cases c : 1 ≤ n ∧ n ≤ 200 ∧ n ≤ 23999 - mom S
  · rw [if_pos c, if_neg n10, if_neg n10]
    refine wp_bm (rs_remember hr) (fun mC1 hw => ?_)
    obtain ⟨mM1, eM, hr1⟩ := hw
    rw [eM, Option.bind_some]
    obtain ⟨hz, h12, hs, hg1, hu, hZ, hS⟩ := id hr1
    have hrg := hr_GG hg1
    have hcb := hrC_b hg1
    have hlist : ∀ a ∈ [26, 27, 29, z + 13, z + 16, 8, 10, 11, 13, 14, 15], (8 ≤ a ∧ a ≤ 39) ∨ a = 41 ∨ (43 ≤ a ∧ a ≤ 51) ∨ a = z + 13 ∨ a = z + 16 := by simp
    have HC : wp (C_hours_L22 1000000 n 0 0 mC1) (fun r => r.1 = hrC Z S n.toNat ∧ sv r.2 8 = hrS Z S n.toNat ∧ eqO [26, 27, 29, z + 13, z + 16, 8, 10, 11, 13, 14, 15] mC1 r.2) := by
      refine wp_for (fun k i (s : Int × zM) => C_hours_L22 k n s.1 i s.2) (fun i s => s.1 = hrC Z S i.toNat ∧ sv s.2 8 = hrS Z S i.toNat ∧ eqO [26, 27, 29, z + 13, z + 16, 8, 10, 11, 13, 14, 15] mC1 s.2) _ 0 n ?_ ?_ 1000000 0 (0, mC1) (by omega) (by omega) (by omega) ⟨rfl, hS, eqO.refl⟩
      · intro k s ⟨i1, i2, i3⟩
        show wp (C_hours_B22 _ _ _ _ _) _
        unfold C_hours_B22
        rw [if_neg (by omega)]
        exact wp_some ⟨i1, i2, i3⟩
      · intro k i s q0 q1 ⟨i1, i2, i3⟩ hrec
        show wp (C_hours_B22 _ _ _ _ _) _
        unfold C_hours_B22
        obtain ⟨m', g', _⟩ := hrg i.toNat (by omega)
        have cb := hcb i.toNat (by omega)
        have cn := cnt_b g'
        have zs : zv s.2 z = Z := by rw [← hZ]; exact zv_eq fun k q1 q2 => i3 _ (by simp; omega)
        rw [if_pos q1, mro_ok (z := z) (by rw [i3 0 (by simp)]; exact h12) (kdz hz)]
        refine wp_bm (wp_playHour g' zs i2 (by omega) (by omega)) (fun r ⟨r1, r2, r3⟩ => ?_)
        rw [lt_ok, i1, r1, wI_ok (x := i + 1) (by omega) (by omega), wI_ok (x := hrC Z S i.toNat + cntV Z (hrS Z S i.toNat)) (by omega) (by omega)]
        have en : (i + 1).toNat = i.toNat + 1 := by omega
        exact hrec (hrC Z S i.toNat + cntV Z (hrS Z S i.toNat), r.2) ⟨by rw [en]; rfl, by rw [en]; exact r2, i3.trans r3⟩
    have HM : wp (M_hours_L26 1000000 n 0 0 mM1) (fun r => r.1 = hrC Z S n.toNat ∧ GG Z (hrS Z S n.toNat) r.2 b 0 ∧ frA 0 mM1 r.2) := by
      refine wp_for (fun k i (s : Int × zM) => M_hours_L26 k n s.1 i s.2) (fun i s => s.1 = hrC Z S i.toNat ∧ GG Z (hrS Z S i.toNat) s.2 b 0 ∧ frA 0 mM1 s.2) _ 0 n ?_ ?_ 1000000 0 (0, mM1) (by omega) (by omega) (by omega) ⟨rfl, hg1, frA.refl⟩
      · intro k s ⟨i1, i2, i3⟩
        show wp (M_hours_B26 _ _ _ _ _) _
        unfold M_hours_B26
        rw [if_neg (by omega)]
        exact wp_some ⟨i1, i2, i3⟩
      · intro k i s q0 q1 ⟨i1, i2, i3⟩ hrec
        show wp (M_hours_B26 _ _ _ _ _) _
        unfold M_hours_B26
        obtain ⟨m', g', e'⟩ := hrg i.toNat (by omega)
        have cb := hcb i.toNat (by omega)
        have cn := cnt_b g'
        rw [if_pos q1]
        refine wp_bm (wp_hourM i2) (fun r ⟨r1, r2⟩ => ?_)
        rw [lt_ok, i1, r1, wI_ok (x := hrC Z S i.toNat + cntV Z (hrS Z S i.toNat)) (by omega) (by omega)]
        refine wp_bm (r2 (by omega)) (fun m2 ⟨w1, w2⟩ => ?_)
        rw [wI_ok (x := i + 1) (by omega) (by omega)]
        have en : (i + 1).toNat = i.toNat + 1 := by omega
        exact hrec (hrC Z S i.toNat + cntV Z (hrS Z S i.toNat), m2) ⟨by rw [en]; rfl, by rw [en]; exact w1, i3.trans w2⟩
    refine wp_mono HC (fun r ⟨r1, r2, r3⟩ => wp_mono HM (fun r' ⟨t1, t2, t3⟩ => ⟨by rw [r1, t1], ?_⟩))
    exact (hr1.now r3 hlist t3 r2 t2.2.1).rel
  · rw [if_neg c, if_pos p00, if_pos p00]
    exact rs_none h (by decide) (by decide)
