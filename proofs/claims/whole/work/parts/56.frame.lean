/-! what a call may change, and what the relation keeps -/
def K1 (z : Nat) (m m' : zM) : Prop := (m' 0 12 = m 0 12 ∧ m' 0 13 = m 0 13 ∧ m' 0 16 = m 0 16) ∧ (m' 1 1 = m 1 1 ∧ m' 1 2 = m 1 2 ∧ m' 2 1 = m 2 1 ∧ m' 40 0 = m 40 0 ∧ m' 52 1 = m 52 1) ∧ (m' 3 = m 3 ∧ m' 7 = m 7 ∧ m' 42 = m 42 ∧ m' 53 = m 53 ∧ m' 54 = m 54) ∧ zv m' z = zv m z
theorem K1.trans {z : Nat} {m m' m2 : zM} (h : K1 z m m') (h2 : K1 z m' m2) : K1 z m m2 := by
  obtain ⟨⟨a1, a2, a3⟩, ⟨a4, a5, a6, a7, a8⟩, ⟨a9, b1, b2, b3, b4⟩, b5⟩ := h
  obtain ⟨⟨c1, c2, c3⟩, ⟨c4, c5, c6, c7, c8⟩, ⟨c9, d1, d2, d3, d4⟩, d5⟩ := h2
  exact ⟨⟨c1.trans a1, c2.trans a2, c3.trans a3⟩, ⟨c4.trans a4, c5.trans a5, c6.trans a6, c7.trans a7, c8.trans a8⟩, ⟨c9.trans a9, d1.trans b1, d2.trans b2, d3.trans b3, d4.trans b4⟩, d5.trans b5⟩
theorem K1.refl {z : Nat} {m : zM} : K1 z m m := ⟨⟨rfl, rfl, rfl⟩, ⟨rfl, rfl, rfl, rfl, rfl⟩, ⟨rfl, rfl, rfl, rfl, rfl⟩, rfl⟩
theorem K1.ofO {z : Nat} {l : List Nat} {m m' : zM} (h : eqO l m m') (hl : ∀ a ∈ l, 8 ≤ a ∧ (a ≤ 39 ∨ a = 41 ∨ (43 ≤ a ∧ a ≤ 51) ∨ a = z + 13 ∨ a = z + 16 ∨ 89 ≤ a)) (hz : z = 55 ∨ z = 72) : K1 z m m' := by
  have e : ∀ a, a < 8 ∨ a = 40 ∨ a = 42 ∨ (52 ≤ a ∧ a ≤ 54) → m' a = m a := fun a q => h a (fun w => by have := hl a w; omega)
  refine ⟨by rw [e 0 (by omega)]; exact ⟨rfl, rfl, rfl⟩, ⟨by rw [e 1 (by omega)], by rw [e 1 (by omega)], by rw [e 2 (by omega)], by rw [e 40 (by omega)], by rw [e 52 (by omega)]⟩, ⟨e 3 (by omega), e 7 (by omega), e 42 (by omega), e 53 (by omega), e 54 (by omega)⟩, zv_eq fun k k1 k2 => h _ (fun w => by have := hl _ w; omega)⟩
/-- fields of the object that the relation doesn't read -/
theorem K1.put0 {z : Nat} {m : zM} {j x : Int} (hj : j ≠ 12 ∧ j ≠ 13 ∧ j ≠ 16) (hz : z = 55 ∨ z = 72) : K1 z m (upm m 0 j x) := ⟨⟨ru2 (by omega), ru2 (by omega), ru2 (by omega)⟩, ⟨ru1 (by decide), ru1 (by decide), ru1 (by decide), ru1 (by decide), ru1 (by decide)⟩, ⟨upm_ne (by decide), upm_ne (by decide), upm_ne (by decide), upm_ne (by decide), upm_ne (by decide)⟩, zv_upm (by omega)⟩
def K2 (m m' : zM) : Prop := (m' 0 1 = m 0 1 ∧ m' 0 10 = m 0 10 ∧ m' 0 11 = m 0 11 ∧ m' 0 13 = m 0 13 ∧ m' 0 58 = m 0 58 ∧ m' 0 65 = m 0 65 ∧ m' 0 76 = m 0 76) ∧ (∀ a, 1 ≤ a → a ≤ 18 → m' a = m a) ∧ m' 26 = m 26 ∧ m' 43 = m 43 ∧ m' 44 = m 44 ∧ m' 52 = m 52
theorem K2.trans {m m' m2 : zM} (h : K2 m m') (h2 : K2 m' m2) : K2 m m2 := by
  obtain ⟨⟨a1, a2, a3, a4, a5, a6, a7⟩, b, b1, b2, b3, b4⟩ := h
  obtain ⟨⟨c1, c2, c3, c4, c5, c6, c7⟩, d, d1, d2, d3, d4⟩ := h2
  exact ⟨⟨c1.trans a1, c2.trans a2, c3.trans a3, c4.trans a4, c5.trans a5, c6.trans a6, c7.trans a7⟩, fun a q1 q2 => (d a q1 q2).trans (b a q1 q2), d1.trans b1, d2.trans b2, d3.trans b3, d4.trans b4⟩
theorem K2.refl {m : zM} : K2 m m := ⟨⟨rfl, rfl, rfl, rfl, rfl, rfl, rfl⟩, fun _ _ _ => rfl, rfl, rfl, rfl, rfl⟩
theorem K2.ofA {v : Int} {m m' : zM} (h : frA v m m') : K2 m m' := ⟨by rw [h.1 0 (by omega)]; exact ⟨rfl, rfl, rfl, rfl, rfl, rfl, rfl⟩, fun a q1 q2 => h.1 a (by omega), h.1 26 (by omega), h.1 43 (by omega), h.1 44 (by omega), h.1 52 (by omega)⟩
theorem K2.ofO {l : List Nat} {m m' : zM} (h : eqO l m m') (hl : ∀ a ∈ l, a ≠ 0 ∧ 19 ≤ a ∧ a ≠ 26 ∧ a ≠ 43 ∧ a ≠ 44 ∧ a ≠ 52) : K2 m m' := by
  have e : ∀ a, a ≤ 18 ∨ a = 26 ∨ a = 43 ∨ a = 44 ∨ a = 52 → m' a = m a := fun a q => h a (fun w => by have := hl a w; omega)
  exact ⟨by rw [e 0 (by omega)]; exact ⟨rfl, rfl, rfl, rfl, rfl, rfl, rfl⟩, fun a q1 q2 => e a (by omega), e 26 (by omega), e 43 (by omega), e 44 (by omega), e 52 (by omega)⟩
theorem K2.put0 {m : zM} {j x : Int} (hj : j = 56 ∨ j = 57) : K2 m (upm m 0 j x) := ⟨⟨ru2 (by omega), ru2 (by omega), ru2 (by omega), ru2 (by omega), ru2 (by omega), ru2 (by omega), ru2 (by omega)⟩, fun a q1 q2 => upm_ne (by omega), upm_ne (by decide), upm_ne (by decide), upm_ne (by decide), upm_ne (by decide)⟩
theorem RS.keep {mC mC' mM mM' : zM} {z : Nat} (h : RS mC mM z) (k1 : K1 z mC mC') (k2 : K2 mM mM') : RS mC' mM' z := by
  obtain ⟨⟨a1, a2, a3⟩, ⟨a4, a5, a6, a7, a8⟩, ⟨a9, b1, b2, b3, b4⟩, b5⟩ := k1
  obtain ⟨⟨c1, c2, c3, c4, c5, c6, c7⟩, d, d1, d2, d3, d4⟩ := k2
  obtain ⟨h1, h2, h3, h4, h5, h6, h7, h8⟩ := h
  unfold RS RZ RL RI
  rw [a9, a6, d 1 (by decide) (by decide), c1, a4, a5, c2, c3, a1, a2, c4, b5, a7, c6, b2, d2, d3, a8, c7, b3, d4, b4, d1, a3, c5, b1]
  exact ⟨h1, h2, ⟨h3.1, h3.2.1, h3.2.2.1, h3.2.2.2.1, h3.2.2.2.2.same (fun a q1 q2 => d a (by omega) q2)⟩, h4, h5, h6, h7, h8⟩
theorem RU.keep {mC mC' mM mM' : zM} {z : Nat} (h : RU mC mM z) (n1 : zv mC z 0 0 ≤ 6) (n2 : zv mC z 0 1 ≤ 8) (e : mC' 0 14 = mC 0 14 ∧ mC' 0 15 = mC 0 15) (ez : zv mC' z = zv mC z) (ep : ∀ a, 89 ≤ a → mC' a = mC a) (f : mM' 0 56 = mM 0 56 ∧ mM' 0 57 = mM 0 57) (fl : ∀ a, 27 ≤ a → a ≤ 36 → ∀ i, lay a * 2 ≤ i → mM' a i = mM a i) : RU mC' mM' z := by
  obtain ⟨a1, a2, a3⟩ := h
  unfold RU
  rw [e.1, e.2, ez, f.1, f.2]
  refine ⟨a1, a2, fun k k0 k1 => ?_⟩
  rw [sv_eq (o := 89 + 8 * ((mC 0 14 + k) % 20).toNat) (fun q _ => ep _ (by omega))]
  refine (a3 k k0 k1).same n1 n2 (fun a q1 q2 i i1 _ => fl a q1 q2 i ?_)
  have l : 1 ≤ lay a := by
    unfold lay
    repeat' split
    all_goals omega
  have : lay a * 2 ≤ lay a * (2 + (mC 0 14 + k) % 20) := Int.mul_le_mul_of_nonneg_left (by omega) (by omega)
  omega
theorem fl_of {v : Int} {m m' : zM} (h : frA v m m') (hv : v ≤ 1) : ∀ a, 27 ≤ a → a ≤ 36 → ∀ i, lay a * 2 ≤ i → m' a i = m a i := by
  intro a q1 q2 i hi
  refine h.2 a q1 q2 i (Or.inr ?_)
  have l : 1 ≤ lay a := by
    unfold lay
    repeat' split
    all_goals omega
  have : lay a * (v + 1) ≤ lay a * 2 := Int.mul_le_mul_of_nonneg_left (by omega) (by omega)
  rw [Int.mul_add, Int.mul_one] at this
  omega
theorem kdz {z : Nat} (hz : z = 55 ∨ z = 72) : kdC z = (0, 10) := by rcases hz with rfl | rfl <;> rfl
/-- what a call finds -/
theorem Rel.parts {mC mM : zM} (h : Rel mC mM) : ∃ z : Nat, (z = 55 ∨ z = 72) ∧ mC 0 12 = (z : Int) + 1 ∧ RS mC mM z ∧ GG (zv mC z) (sv mC 8) mM (mM 0 13) 0 ∧ RU mC mM z := by
  obtain ⟨z, h1, h2, h3⟩ := h
  exact ⟨z, h1.2.2.1.1, h1.2.2.1.2.1, h1, ⟨h1.2.2.1.2.2.2.2, h2, rfl, h1.2.2.1.2.2.2.1, by omega, by omega⟩, h3⟩
/-- a call that leaves now and what can be undone -/
theorem Rel.quiet {mC mC' mM mM' : zM} {z : Nat} (hz : z = 55 ∨ z = 72) (h1 : RS mC mM z) (g : GG (zv mC z) (sv mC 8) mM (mM 0 13) 0) (h3 : RU mC mM z) (k1 : K1 z mC mC') (k2 : K2 mM mM') (e : mC' 0 14 = mC 0 14 ∧ mC' 0 15 = mC 0 15) (es : sv mC' 8 = sv mC 8) (ep : ∀ a, 89 ≤ a → mC' a = mC a) (f : mM' 0 56 = mM 0 56 ∧ mM' 0 57 = mM 0 57) (fl : ∀ u, u ≠ 1 → 0 ≤ u → ∀ a, 27 ≤ a → a ≤ 36 → ∀ i, lay a * u ≤ i → i < lay a * u + lay a → mM' a i = mM a i) : Rel mC' mM' := by
  refine ⟨z, h1.keep k1 k2, ?_, ?_⟩
  · rw [k1.2.2.2, es]
    exact g.2.1.same g.nb.2 g.ng.2 (fun a q1 q2 i i1 i2 => fl 0 (by omega) (by omega) a q1 q2 i i1 i2)
  · obtain ⟨a1, a2, a3⟩ := h3
    unfold RU
    rw [e.1, e.2, k1.2.2.2, f.1, f.2]
    refine ⟨a1, a2, fun k k0 k1 => ?_⟩
    rw [sv_eq (o := 89 + 8 * ((mC 0 14 + k) % 20).toNat) (fun q _ => ep _ (by omega))]
    exact (a3 k k0 k1).same g.nb.2 g.ng.2 (fun a q1 q2 i i1 i2 => fl (2 + (mC 0 14 + k) % 20) (by omega) (by omega) a q1 q2 i i1 i2)
theorem Rel.quietO {mC mC' mM mM' : zM} {z : Nat} {l : List Nat} (hz : z = 55 ∨ z = 72) (h1 : RS mC mM z) (g : GG (zv mC z) (sv mC 8) mM (mM 0 13) 0) (h3 : RU mC mM z) (k : eqO l mC mC') (hl : ∀ a ∈ l, (16 ≤ a ∧ a ≤ 39) ∨ a = 41 ∨ (43 ≤ a ∧ a ≤ 51) ∨ a = z + 13 ∨ a = z + 16) (f : frA 1 mM mM') : Rel mC' mM' := by
  refine Rel.quiet hz h1 g h3 (K1.ofO k (fun a w => by have := hl a w; omega) hz) (K2.ofA f) ?_ ?_ ?_ ?_ ?_
  · rw [k 0 (fun w => by have := hl 0 w; omega)]; exact ⟨rfl, rfl⟩
  · exact sv_eq fun q hq => k _ (fun w => by have := hl _ w; omega)
  · exact fun a ha => k a (fun w => by have := hl a w; omega)
  · rw [f.1 0 (by omega)]; exact ⟨rfl, rfl⟩
  · intro u u1 u0 a q1 q2 i i1 i2
    refine f.2 a q1 q2 i ?_
    have l : 1 ≤ lay a := by
      unfold lay
      repeat' split
      all_goals omega
    by_cases e : u = 0
    · subst e
      omega
    · have : lay a * 2 ≤ lay a * u := Int.mul_le_mul_of_nonneg_left (by omega) (by omega)
      omega
def bmp (f : Int → Int) (k : Int) : Int → Int := sets f k (wI (f k + 1))
theorem C_refuse_ok {k : Int} {m : zM} (h0 : 0 ≤ k) (h1 : k < 6) : C_refuse k m = some (-1, upm m 54 k (wI (m 54 k + 1))) := by
  unfold C_refuse
  rw [rd_ok h0 (by omega), wr_ok h0 (by omega)]
theorem M_refuses_ok {k : Int} {m : zM} (h0 : 0 ≤ k) (h1 : k < 6) : M_refuses k m = some (-1, upm m 26 k (wI (m 26 k + 1))) := by
  unfold M_refuses
  rw [rd_ok h0 (by omega), wr_ok h0 (by omega)]
theorem Rel.refuse {mC mM : zM} {k : Int} (h : Rel mC mM) (h0 : 0 ≤ k) (h1 : k < 6) : Rel (upm mC 54 k (wI (mC 54 k + 1))) (upm mM 26 k (wI (mM 26 k + 1))) := by
  obtain ⟨z, hs, hn, hu⟩ := h
  have hz := hs.2.2.1.1
  have ez : zv (upm mC 54 k (wI (mC 54 k + 1))) z = zv mC z := zv_upm (by omega)
  have n1 : zv mC z 0 0 ≤ 6 := hs.2.2.1.2.2.2.2.1.2.2
  have n2 : zv mC z 0 1 ≤ 8 := hs.2.2.1.2.2.2.2.2.1.2.2
  refine ⟨z, ?_, ?_, ?_⟩
  · obtain ⟨a1, a2, a3, a4, a5, a6, a7, a8⟩ := hs
    unfold RS RZ RL RI
    rw [ez]
    simp (disch := decide) only [upm_ne, upm_eq]
    refine ⟨a1, a2, ⟨a3.1, a3.2.1, a3.2.2.1, a3.2.2.2.1, a3.2.2.2.2.same (fun a q1 q2 => upm_ne (by omega))⟩, a4, a5, ?_, a7, a8⟩
    intro j q1 q2
    unfold sets
    rw [a6 j q1 q2, a6 k h0 h1]
  · rw [ez, sv_upm (by omega)]
    exact hn.same n1 n2 (fun a q1 q2 i _ _ => ru1 (by omega))
  · exact hu.keep n1 n2 ⟨ru1 (by decide), ru1 (by decide)⟩ ez (fun a q => upm_ne (by omega)) ⟨ru1 (by decide), ru1 (by decide)⟩ (fun a q1 q2 i _ => ru1 (by omega))
