/-! sums and tests: class and model, step by step -/
def RC (m m' : zM) : Prop := ∃ k : Nat, (k : Int) ≤ m' 0 4 - m 0 4 ∧ ∀ n, M_reads_L43 (n + k) 1 m = M_reads_L43 n 1 m'
def FN (N : Int) (m m' : zM) : Prop := ∃ k : Nat, (k : Int) ≤ N - m 0 4 + 2 ∧ ∀ n, M_reads_L43 (n + k) 1 m = some m'
theorem RC.refl {m : zM} : RC m m := ⟨0, by omega, fun n => rfl⟩
theorem RC.trans {m m' m2 : zM} (h : RC m m') (h2 : RC m' m2) : RC m m2 := by
  obtain ⟨k, k1, k2⟩ := h
  obtain ⟨j, j1, j2⟩ := h2
  refine ⟨j + k, by omega, fun n => ?_⟩
  rw [← Nat.add_assoc, k2, j2]
theorem RC.FN {N : Int} {m m' m2 : zM} (h : RC m m') (h2 : FN N m' m2) : FN N m m2 := by
  obtain ⟨k, k1, k2⟩ := h
  obtain ⟨j, j1, j2⟩ := h2
  refine ⟨j + k, by omega, fun n => ?_⟩
  rw [← Nat.add_assoc, k2, j2]
theorem L43_0 {n : Nat} {m : zM} : M_reads_L43 (n + 1) 0 m = some m := by
  show M_reads_B43 _ _ _ = _
  unfold M_reads_B43
  rw [if_pos rfl]
theorem step_O {m m1 : zM} {v : Int} (h43 : m 0 43 = 0) (e : M_operand m = some (v, m1)) (h8 : m1 0 8 = 0) (h4 : m 0 4 + 1 ≤ m1 0 4) : RC m (upm m1 0 43 v) := by
  refine ⟨1, by rw [ru2 (by decide)]; omega, fun n => ?_⟩
  show M_reads_B43 _ _ _ = _
  unfold M_reads_B43
  rw [if_neg (by decide), if_pos h43, e, Option.bind_some, pf_ok]
  unfold M_reads_b70
  rw [if_neg (by decide), if_pos (by rw [ru2 (by decide)]; exact h8)]
theorem step_OF {N v : Int} {m m1 : zM} (h43 : m 0 43 = 0) (e : M_operand m = some (v, m1)) (h8 : 0 < m1 0 8) (h4 : m 0 4 ≤ N) : FN N m (upm m1 0 43 v) := by
  refine ⟨2, by omega, fun n => ?_⟩
  show M_reads_B43 _ _ _ = _
  unfold M_reads_B43
  rw [if_neg (by decide), if_pos h43, e, Option.bind_some, pf_ok]
  unfold M_reads_b70
  rw [if_neg (show ¬ (1 : Int) = 0 by decide), if_neg (show ¬ upm m1 0 43 v 0 8 = 0 by rw [ru2 (by decide)]; omega)]
  exact L43_0
theorem step_G {m m1 : zM} (h43 : m 0 43 = 1) (e : M_goesOn m = some (1, m1)) (h8 : m1 0 8 = 0) (h4 : m 0 4 + 1 ≤ m1 0 4) : RC m m1 := by
  refine ⟨1, by omega, fun n => ?_⟩
  show M_reads_B43 _ _ _ = _
  unfold M_reads_B43
  rw [if_neg (by decide), if_neg (by omega), e, Option.bind_some]
  unfold M_reads_b70
  rw [if_neg (show ¬ (1 : Int) = 0 by decide), if_pos h8]
theorem step_GF {N : Int} {m m1 : zM} (h43 : m 0 43 = 1) (e : M_goesOn m = some (0, m1)) (h4 : m 0 4 ≤ N) : FN N m m1 := by
  refine ⟨2, by omega, fun n => ?_⟩
  show M_reads_B43 _ _ _ = _
  unfold M_reads_B43
  rw [if_neg (by decide), if_neg (by omega), e, Option.bind_some]
  unfold M_reads_b70
  rw [if_pos rfl]
  exact L43_0
/-- what stands fixed within a sum or a test: tokens, bank, where its codes begin, may, the class's row -/
abbrev zQ : Type := zX × Int × Int × Int × Nat
abbrev qc (q : zQ) : zX := q.1
abbrev qb (q : zQ) : Int := q.2.1
abbrev ql (q : zQ) : Int := q.2.2.1
abbrev qm (q : zQ) : Int := q.2.2.2.1
abbrev qz (q : zQ) : Nat := q.2.2.2.2
def qx (q : zQ) : Int := if qm q = 0 then 6 else 9
def QH (q : zQ) : Prop := LX (qc q) ∧ (qb q = 0 ∨ qb q = 1) ∧ 0 ≤ ql q ∧ (qm q = 0 ∨ qm q = 1) ∧ (qz q = 66 ∨ qz q = 69 ∨ qz q = 83 ∨ qz q = 86)
abbrev kdq (q : zQ) (i : Int) : Int := xm (qc q) 4 i
def XC (q : zQ) (i o : Int) (G : List zC) (m : zM) : Prop := PC (qc q) i m ∧ m 1 4 = (qz q : Int) + 1 ∧ m 1 5 = qm q ∧ m 1 6 = o ∧ cdC (qz q) G m
abbrev XQ (q : zQ) (opd i O : Int) (M : List zC) (P D : Int) (m : zM) : Prop := XM (qc q) (qb q) (ql q) (qm q) opd i O M P D m
/-- the class's frame -/
def FCx (q : zQ) (m m' : zM) : Prop := eqO [1, qz q, qz q + 1] m m' ∧ m' 1 3 = m 1 3 ∧ m' 1 4 = m 1 4 ∧ m' 1 5 = m 1 5 ∧ ∀ j, j ≠ 1 → m' (qz q) j = m (qz q) j
theorem FCx.refl {q : zQ} {m : zM} : FCx q m m := ⟨eqO.refl, rfl, rfl, rfl, fun _ _ => rfl⟩
theorem FCx.trans {q : zQ} {m m' m2 : zM} (h : FCx q m m') (h2 : FCx q m' m2) : FCx q m m2 := ⟨h.1.trans h2.1, by rw [h2.2.1, h.2.1], by rw [h2.2.2.1, h.2.2.1], by rw [h2.2.2.2.1, h.2.2.2.1], fun j hj => by rw [h2.2.2.2.2 j hj, h.2.2.2.2 j hj]⟩
theorem FCx.put1 {q : zQ} {m m' : zM} {j x : Int} (hq : QH q) (h : FCx q m m') (hj : j ≠ 3 ∧ j ≠ 4 ∧ j ≠ 5) : FCx q m (upm m' 1 j x) := by
  have hz := hq.2.2.2.2
  exact ⟨h.1.put (by simp), by rw [ru2 (by omega)]; exact h.2.1, by rw [ru2 (by omega)]; exact h.2.2.1, by rw [ru2 (by omega)]; exact h.2.2.2.1, fun k hk => by rw [ru1 (by omega)]; exact h.2.2.2.2 k hk⟩
theorem frK.x {q : zQ} {m m' : zM} (hq : QH q) (h : frK m m') : FCx q m m' := by
  have hz := hq.2.2.2.2
  exact ⟨h.1.mono (by simp), h.2.1, h.2.2.1, h.2.2.2.1, fun j _ => by rw [h.cell (by omega)]⟩
theorem cdC.keep {zf : Nat} {G : List zC} {m m' : zM} (h : cdC zf G m) (h1 : m' zf = m zf) (h2 : m' (zf + 1) = m (zf + 1)) : cdC zf G m' := by
  unfold cdC at h ⊢
  rw [h1, h2]
  exact h
theorem XC.u1 {q : zQ} {i i' o o' j x : Int} {G : List zC} {m : zM} (hq : QH q) (h : XC q i o G m) (hj : (j = 7 ∧ x = i' ∧ o' = o) ∨ (j = 6 ∧ x = o' ∧ i' = i)) : XC q i' o' G (upm m 1 j x) := by
  have hz := hq.2.2.2.2
  obtain ⟨h1, h2, h3, h4, h5⟩ := h
  refine ⟨⟨by rw [upm_ne (by decide), upm_ne (by decide), upm_ne (by decide), upm_ne (by decide), ru2 (by omega), ru2 (by omega)]; exact h1.1, ?_⟩, by rw [ru2 (by omega)]; exact h2, by rw [ru2 (by omega)]; exact h3, ?_, h5.keep (upm_ne (by omega)) (upm_ne (by omega))⟩
  · rcases hj with ⟨a, b, _⟩ | ⟨a, _, b⟩
    · rw [a, b, ru3 rfl rfl]
    · rw [a, b, ru2 (by decide)]; exact h1.2
  · rcases hj with ⟨a, _, b⟩ | ⟨a, b, _⟩
    · rw [a, b, ru2 (by decide)]; exact h4
    · rw [a, b, ru3 rfl rfl]
/-- the class adds a code -/
theorem XC.add {q : zQ} {i o op x s v : Int} {G : List zC} {m : zM} (hq : QH q) (h : XC q i o G m) (x0 : 0 ≤ x) (x1 : x ≤ 9999) (o0 : 0 ≤ op) (o1 : op ≤ 255) (l1 : (G.length : Int) < 1600) : ∃ m', Fo_add (qz q) op x m = some m' ∧ XC q i o (G ++ [(x * 256 + op, s, v)]) m' ∧ FCx q m m' := by
  have hz := hq.2.2.2.2
  obtain ⟨h1, h2, h3, h4, h5⟩ := h
  obtain ⟨m', a1, a2, a3⟩ := add_C (s := s) (v := v) h5 x0 x1 o0 o1 l1
  have ea : ∀ a, a ≠ qz q → a ≠ qz q + 1 → m' a = m a := fun a q1 q2 => by rw [a3, upm_ne q1, upm_ne q2]
  refine ⟨m', a1, ⟨⟨by rw [ea 2 (by omega) (by omega), ea 4 (by omega) (by omega), ea 5 (by omega) (by omega), ea 6 (by omega) (by omega), ea 1 (by omega) (by omega)]; exact h1.1, by rw [ea 1 (by omega) (by omega)]; exact h1.2⟩, by rw [ea 1 (by omega) (by omega)]; exact h2, by rw [ea 1 (by omega) (by omega)]; exact h3, by rw [ea 1 (by omega) (by omega)]; exact h4, a2⟩, ⟨fun a ha => ea a (fun w => ha (by simp [w])) (fun w => ha (by simp [w])), by rw [ea 1 (by omega) (by omega)], by rw [ea 1 (by omega) (by omega)], by rw [ea 1 (by omega) (by omega)], fun j hj => by rw [a3, ru2 hj, ru1 (by omega)]⟩⟩
theorem kdf {q : zQ} (hq : QH q) : kdC (qz q) = (0, 1) := by
  rcases hq.2.2.2.2 with h | h | h | h <;> rw [h] <;> rfl
/-- behind a part: the class is ahead of the model by what is on hold -/
def GD (q : zQ) (t : Bool) (rk need o : Int) (T : List Bool) (P D i : Int) (G : List zC) (Eb : List Int) (M : List zC) (mC mM : zM) : Prop := XC q i o G mC ∧ XMe (qc q) (qb q) (ql q) (qm q) 1 i o M Eb P D mM ∧ G = M ++ (Eb.reverse).map opE ∧ (∀ k : Nat, k < Eb.length → mM 24 (P + (k : Int)) = Eb.getD k 0) ∧ (∀ op ∈ Eb, rk ≤ rkV op) ∧ WG (qx q) G (t :: T) ∧ ql q + (G.length : Int) + P + D ≤ xm (qc q) 5 i + 1 ∧ (Eb.length : Int) ≤ need + (7 - o)
def PRE (q : zQ) (need i o : Int) (G : List zC) (T : List Bool) (P D : Int) (mC mM : zM) : Prop := XC q i o G mC ∧ XQ q 0 i o G P D mM ∧ WG (qx q) G T ∧ (0 ≤ o ∧ o ≤ 7) ∧ (1 ≤ D ∧ D ≤ o + 1) ∧ (0 ≤ P ∧ P + need + 5 * (7 - o) ≤ 40) ∧ (T.length : Int) + need + 5 * (7 - o) ≤ 40 ∧ ql q + (G.length : Int) + P + D ≤ xm (qc q) 5 i + 1 ∧ 0 ≤ mM 23 (D - 1) ∧ mM 23 (D - 1) ≤ P
def BC (least P D : Int) (m : zM) : Prop := P = m 23 (D - 1) ∨ rkV (m 24 (P - 1)) < least
def KF (D : Int) (m m' : zM) : Prop := m' 19 (D - 1) = m 19 (D - 1) ∧ m' 22 (D - 1) = m 22 (D - 1) ∧ m' 23 (D - 1) = m 23 (D - 1)
theorem KF.refl {D : Int} {m : zM} : KF D m m := ⟨rfl, rfl, rfl⟩
theorem KF.trans {D : Int} {m m' m2 : zM} (h : KF D m m') (h2 : KF D m' m2) : KF D m m2 := ⟨by rw [h2.1, h.1], by rw [h2.2.1, h.2.1], by rw [h2.2.2, h.2.2]⟩
theorem FX.K {b lo F P D : Int} {m m' : zM} (h : FX b lo F P m m') (hD : D - 1 < F) : KF D m m' := by
  obtain ⟨a, _, _, d, e⟩ := h.2.2.2.2.1 (D - 1) hD
  exact ⟨a, d, e⟩
def LVg (q : zQ) (t : Bool) (rk need : Int) (X : Int → zM → Prop) (i o : Int) (T : List Bool) (P D : Int) (mM mC' : zM) : Prop := ∃ (i' : Int) (G : List zC) (Eb : List Int) (M : List zC) (mM' : zM), i < i' ∧ GD q t rk need o T P D i' G Eb M mC' mM' ∧ RC mM mM' ∧ FX (qb q) (ql q) (D - 1) P mM mM' ∧ KF D mM mM' ∧ X i' mM'
def LVb (q : zQ) (mM mC' : zM) : Prop := ∃ mM', FN (xN (qc q)) mM mM' ∧ FE mC' mM' ∧ frB (qb q) mM mM'
def LV (q : zQ) (t : Bool) (rk need : Int) (X : Int → zM → Prop) (i o : Int) (T : List Bool) (P D : Int) (mC mM : zM) (a : Int × zM) : Prop := ((a.1 = 1 ∧ LVg q t rk need X i o T P D mM a.2) ∨ (a.1 = 0 ∧ LVb q mM a.2)) ∧ FCx q mC a.2
theorem PM.N {c : zX} {i : Int} {m : zM} (hL : LX c) (h : PM c i m) : m 0 4 ≤ xN c ∧ m 0 4 = xm c 5 i ∧ xm c 5 i ≤ 1600 ∧ 0 ≤ xm c 5 i := by
  have a := hL.1.2.2.2.1 i h.1.1 h.1.2
  have b := h.at
  have e := hL.2.2
  exact ⟨by omega, b, by omega, by omega⟩
theorem plc_1 {c : zX} {i : Int} (h7 : xm c 4 i ≠ 257) : plc c 1 i = xm c 5 i := if_neg (fun x => h7 x.2)
theorem fmM_FE {mC m : zM} {k p v : Int} (hk : 0 < k) : FE (fmC mC k p) (upm (fmM m k p) 0 43 v) := by
  have h := FE_fm (mC := mC) (mM := m) (k := k) (p := p) hk
  unfold FE at h ⊢
  rw [ru2 (by decide), ru2 (by decide)]
  exact h
/-- the same fault, where an operand is wanted -/
theorem bad_O {q : zQ} {i o k p v P D : Int} {M : List zC} {mC mM m1 : zM} (hq : QH q) (hk : 0 < k) (h : XQ q 0 i o M P D mM) (e : M_operand mM = some (v, fmM m1 k p)) (hf : FX (qb q) (ql q) 0 0 mM m1) : LVb q mM (fmC mC k p) := by
  refine ⟨upm (fmM m1 k p) 0 43 v, step_OF h.2.1.2.2.2.2.2 e (by rw [fmM_8]; exact hk) (h.1.N hq.1).1, fmM_FE hk, (hf.1.trans fmM_G.B).put0 (by omega)⟩
/-- the same fault, where it is asked what goes on -/
theorem bad_G {q : zQ} {i k p o P D : Int} {M : List zC} {mC mM : zM} (hq : QH q) (hk : 0 < k) (h : XQ q 1 i o M P D mM) (e : M_goesOn mM = some (0, fmM mM k p)) : LVb q mM (fmC mC k p) := by
  exact ⟨fmM mM k p, step_GF h.2.1.2.2.2.2.2 e (h.1.N hq.1).1, FE_fm hk, fmM_G.B⟩
theorem LVb.after {q : zQ} {mM m1 mC' : zM} {F P : Int} (h : LVb q m1 mC') (r : RC mM m1) (f : FX (qb q) (ql q) F P mM m1) : LVb q mM mC' := by
  obtain ⟨m2, a, b, c⟩ := h
  exact ⟨m2, r.FN a, b, f.1.trans c⟩
/-- tokens that the class takes -/
theorem tok_1 {q : zQ} {i o : Int} {G : List zC} {mC mM : zM} {ch : Int} (hq : QH q) (h : XC q i o G mC) (hM : PM (qc q) i mM) (hk : kdq q i = ch) : Pa_token ch mC = some (1, upm mC 1 7 (i + 1)) := by
  have bi := hM.i0 hq.1
  unfold Pa_token
  rw [kind_ok hq.1 h.1 hM, Option.bind_some, if_pos hk, h.1.2, wI_ok (by omega) (by omega), pf_ok]
theorem tok_0 {q : zQ} {i o : Int} {G : List zC} {mC mM : zM} {ch : Int} (hq : QH q) (h : XC q i o G mC) (hM : PM (qc q) i mM) (hk : kdq q i ≠ ch) : Pa_token ch mC = some (0, fmC mC 1 (plc (qc q) 1 i)) := by
  unfold Pa_token
  rw [kind_ok hq.1 h.1 hM, Option.bind_some, if_neg hk, fail_ok hq.1 h.1 hM, Option.bind_some]
theorem opening_1 {q : zQ} {i o : Int} {G : List zC} {mC mM : zM} {ch : Int} (hq : QH q) (h : XC q i o G mC) (hM : PM (qc q) i mM) (o0 : 0 ≤ o) (o7 : o < 7) (hk : kdq q i = ch) : Pa_opening ch mC = some (1, upm (upm mC 1 6 (o + 1)) 1 7 (i + 1)) := by
  have bi := hM.i0 hq.1
  unfold Pa_opening
  rw [kind_ok hq.1 h.1 hM, Option.bind_some, if_pos hk, h.2.2.2.1, if_pos o7, wI_ok (x := o + 1) (by omega) (by omega), pf_ok, ru2 (by decide), h.1.2, wI_ok (x := i + 1) (by omega) (by omega), pf_ok]
theorem opening_7 {q : zQ} {i o : Int} {G : List zC} {mC mM : zM} {ch : Int} (hq : QH q) (h : XC q i o G mC) (hM : PM (qc q) i mM) (o7 : o = 7) (hk : kdq q i = ch) : Pa_opening ch mC = some (0, fmC mC 5 (xm (qc q) 5 i)) := by
  unfold Pa_opening
  have e : plc (qc q) 5 i = xm (qc q) 5 i := if_neg (fun x => absurd x.1 (by decide))
  rw [kind_ok hq.1 h.1 hM, Option.bind_some, if_pos hk, h.2.2.2.1, if_neg (by omega), fail_ok hq.1 h.1 hM, Option.bind_some, e]
theorem opening_0 {q : zQ} {i o : Int} {G : List zC} {mC mM : zM} {ch : Int} (hq : QH q) (h : XC q i o G mC) (hM : PM (qc q) i mM) (hk : kdq q i ≠ ch) : Pa_opening ch mC = some (0, fmC mC 1 (plc (qc q) 1 i)) := by
  unfold Pa_opening
  rw [kind_ok hq.1 h.1 hM, Option.bind_some, if_neg hk, fail_ok hq.1 h.1 hM, Option.bind_some]
theorem GD.HD {q : zQ} {t : Bool} {rk need o P D i least : Int} {T : List Bool} {G M : List zC} {Eb : List Int} {mC mM : zM} (h : GD q t rk need o T P D i G Eb M mC mM) (hr : least ≤ rk) (b0 : 0 ≤ mM 23 (D - 1)) (b1 : mM 23 (D - 1) ≤ P) (hb : BC least P D mM) : HD least P D Eb mM := ⟨h.2.2.2.1, fun op ho => by have := h.2.2.2.2.1 op ho; omega, b1, b0, hb⟩
theorem GD.len {q : zQ} {t : Bool} {rk need o P D i : Int} {T : List Bool} {G M : List zC} {Eb : List Int} {mC mM : zM} (h : GD q t rk need o T P D i G Eb M mC mM) : (G.length : Int) = (M.length : Int) + (Eb.length : Int) := by
  rw [h.2.2.1, List.length_append, List.length_map, List.length_reverse]
  omega
def nar (q : zQ) (i : Int) : Prop := kdq q i ≠ 43 ∧ kdq q i ≠ 45 ∧ kdq q i ≠ 42 ∧ kdq q i ≠ 47 ∧ kdq q i ≠ 37
/-- a bracket ends -/
theorem close_J {q : zQ} {t : Bool} {rk need o P D i K ch x : Int} {T : List Bool} {G M : List zC} {Eb : List Int} {mC mM : zM} (hq : QH q) (h : GD q t rk need (o + 1) T P (D + 1) i G Eb M mC mM) (o0 : 0 ≤ o) (o1 : o ≤ 6) (n5 : need ≤ 5) (D0 : 1 ≤ D) (D1 : D ≤ 7) (P0 : 0 ≤ P) (P1 : P ≤ 40) (hr : 1 ≤ rk) (hB : mM 23 D = P) (hK : mM 19 D = K) (hch : (K = 2 ∧ ch = 41) ∨ (K = 4 ∧ ch = 41) ∨ (K = 5 ∧ ch = 93)) (hs : mM 20 D < 2 → nar q i) (ht : isT K → mM 20 D ≠ 0 ∧ kdq q i ≠ 324 ∧ kdq q i ≠ 325) : wp (Pa_closing ch mC) (fun a => ((a.1 = 1 ∧ ∃ mM', RC mM mM' ∧ XC q (i + 1) o G a.2 ∧ XQ q 1 (i + 1) o (G ++ (if K = 4 then [(x, mM 22 D, 0)] else [])) P D mM' ∧ FX (qb q) (ql q) (D - 1) 1000 mM mM' ∧ mM' 20 (D - 1) = (if K = 5 then 2 else mM 20 (D - 1)) ∧ (∀ a, a = 19 ∨ a = 21 ∨ a = 22 ∨ a = 23 → mM' a (D - 1) = mM a (D - 1)) ∧ kdq q i = ch) ∨ (a.1 = 0 ∧ LVb q mM a.2)) ∧ FCx q mC a.2) := by
  have hx := h.2.1
  have hl := h.len
  have hroom := h.2.2.2.2.2.2.1
  have hEb := h.2.2.2.2.2.2.2
  have hN := hx.1.N hq.1
  have eD : D + 1 - 1 = D := by omega
  have eD2 : D + 1 - 2 = D - 1 := by omega
  have hXC : XC q i o G (upm mC 1 6 o) := h.1.u1 hq (Or.inr ⟨rfl, rfl, rfl⟩)
  have hF : FCx q mC (upm mC 1 6 o) := FCx.refl.put1 hq (by decide)
  unfold Pa_closing
  rw [h.1.2.2.2.1, wI_ok (x := o + 1 - 1) (by omega) (by omega), show o + 1 - 1 = o from by omega, pf_ok]
  by_cases c7 : kdq q i = 257
  · rw [tok_0 hq hXC hx.1 (by omega), Option.bind_some]
    exact wp_some ⟨Or.inr ⟨rfl, bad_G hq (by decide) hx (go_bad hx.1 c7)⟩, hF.trans (fmC_K.x hq)⟩
  · have e422 := go_422 hx c7 (by omega) (by omega) (by rw [eD]; exact hs) (by rw [eD, hK]; exact ht)
    rw [eD, hK] at e422
    by_cases ck : kdq q i = ch
    · rw [tok_1 hq hXC hx.1 ck, Option.bind_some]
      have hd := h.HD (least := 1) hr (by rw [eD, hB]; exact P0) (by rw [eD, hB]; omega) (Or.inl (by rw [eD, hB]))
      have w := b422_close (x := x) hq.1 hq.2.1 hq.2.2.1 (by omega) (by omega) (by omega) (by omega) P0 hx hd (by omega) (by omega) ck hch
      rw [eD, eD2] at w
      obtain ⟨r, r0, r1, r2, r3, r4, r5⟩ := w
      rw [show o + 1 - 1 = o from by omega, ← h.2.2.1] at r2
      have lt := hx.1.lt hq.1 (by show kdq q i ≠ 256; omega) c7
      have mono := hq.1.mono hx.1.1.1 lt
      have eG : M_goesOn mM = some (1, r.2) := by rw [e422, r0, ← r1]
      refine wp_some ⟨Or.inl ⟨rfl, r.2, step_G hx.2.1.2.2.2.2.2 eG r2.1.2.2.2.1 (by rw [hN.2.1, r2.1.at]; omega), hXC.u1 hq (Or.inl ⟨rfl, rfl, rfl⟩), r2, r3, r4, r5, ck⟩, hF.put1 hq (by decide)⟩
    · rw [tok_0 hq hXC hx.1 ck, Option.bind_some]
      have e := b422_noclose (x := D) hx.1 c7 ck hch
      rw [hN.2.1, ← plc_1 c7] at e
      exact wp_some ⟨Or.inr ⟨rfl, bad_G hq (by decide) hx (by rw [e422, e])⟩, hF.trans (fmC_K.x hq)⟩
/-- a comma within a bracket -/
theorem comma_J {q : zQ} {t : Bool} {rk need o P D i K K' : Int} {T : List Bool} {G M : List zC} {Eb : List Int} {mC mM : zM} (hq : QH q) (h : GD q t rk need o T P D i G Eb M mC mM) (o0 : 0 ≤ o) (o1 : o ≤ 7) (n5 : need ≤ 5) (D0 : 1 ≤ D) (D1 : D ≤ 8) (P0 : 0 ≤ P) (P1 : P ≤ 40) (hr : 1 ≤ rk) (hB : mM 23 (D - 1) = P) (hK : mM 19 (D - 1) = K) (hKK : (K = 3 ∧ K' = 4) ∨ (K = 6 ∧ K' = 3)) (hs : mM 20 (D - 1) < 2 → nar q i) (ht : isT K → mM 20 (D - 1) ≠ 0 ∧ kdq q i ≠ 324 ∧ kdq q i ≠ 325) : wp (Pa_token 44 mC) (fun a => ((a.1 = 1 ∧ ∃ mM', RC mM mM' ∧ XC q (i + 1) o G a.2 ∧ XQ q 0 (i + 1) o G P D mM' ∧ FX (qb q) (ql q) (D - 1) 1000 mM mM' ∧ mM' 19 (D - 1) = K' ∧ mM' 20 (D - 1) = 0 ∧ (∀ a, a = 21 ∨ a = 22 ∨ a = 23 → mM' a = mM a) ∧ kdq q i = 44) ∨ (a.1 = 0 ∧ LVb q mM a.2)) ∧ FCx q mC a.2) := by
  have hx := h.2.1
  have hl := h.len
  have hroom := h.2.2.2.2.2.2.1
  have hEb := h.2.2.2.2.2.2.2
  have hN := hx.1.N hq.1
  by_cases c7 : kdq q i = 257
  · rw [tok_0 hq h.1 hx.1 (by omega)]
    exact wp_some ⟨Or.inr ⟨rfl, bad_G hq (by decide) hx (go_bad hx.1 c7)⟩, fmC_K.x hq⟩
  · have e422 := go_422 hx c7 (by omega) (by omega) hs (by rw [hK]; exact ht)
    rw [hK] at e422
    by_cases ck : kdq q i = 44
    · rw [tok_1 hq h.1 hx.1 ck]
      have hd := h.HD (least := 1) hr (by rw [hB]; exact P0) (by rw [hB]; omega) (Or.inl hB.symm)
      have w := b422_comma hq.1 hq.2.1 hq.2.2.1 o0 o1 D0 D1 P0 hx hd (by omega) (by omega) ck hKK
      obtain ⟨r, r0, r1, r2, r3, r4, r5, r6⟩ := w
      rw [← h.2.2.1] at r2
      have lt := hx.1.lt hq.1 (by show kdq q i ≠ 256; omega) c7
      have mono := hq.1.mono hx.1.1.1 lt
      have eG : M_goesOn mM = some (1, r.2) := by rw [e422, r0, ← r1]
      exact wp_some ⟨Or.inl ⟨rfl, r.2, step_G hx.2.1.2.2.2.2.2 eG r2.1.2.2.2.1 (by rw [hN.2.1, r2.1.at]; omega), h.1.u1 hq (Or.inl ⟨rfl, rfl, rfl⟩), r2, r3, r4, r5, r6, ck⟩, FCx.refl.put1 hq (by decide)⟩
    · rw [tok_0 hq h.1 hx.1 ck]
      have e := b422_nocomma (x := D - 1) (K := K) hx.1 c7 ck (by omega)
      rw [hN.2.1, ← plc_1 c7] at e
      exact wp_some ⟨Or.inr ⟨rfl, bad_G hq (by decide) hx (by rw [e422, e])⟩, fmC_K.x hq⟩
/-- an operator behind its second operand: the class adds it, the model holds it -/
theorem push_op {q : zQ} {t1 t2 tr : Bool} {rk rk' need need' o P D i op : Int} {T : List Bool} {G M : List zC} {Eb : List Int} {mC mM : zM} (hq : QH q) (h : GD q t2 rk need o (t1 :: T) (P + 1) D i G Eb M mC mM) (h24 : mM 24 P = op) (ho : 31 ≤ op ∧ op ≤ 42 ∧ op ≠ 36 ∧ op ≠ 37) (hty : tst op (t2 :: t1 :: T) = some (tr :: T)) (hr : rk' ≤ rk) (hr2 : rk' ≤ rkV op) (hn : need + 1 ≤ need') (P0 : 0 ≤ P) (D0 : 1 ≤ D) (hT : (T.length : Int) ≤ 40) : ∃ mC', Fo_add (qz q) (opc op) 0 mC = some mC' ∧ GD q tr rk' need' o T P D i (G ++ [opE op]) (op :: Eb) M mC' mM ∧ FCx q mC mC' := by
  obtain ⟨h1, h2, h3, h4, h5, h6, h7, h8⟩ := h
  have hN := h2.1.N hq.1
  have lo := hq.2.2.1
  have oc : 0 ≤ opc op ∧ opc op ≤ 255 := by
    unfold opc
    repeat' split
    all_goals omega
  obtain ⟨mC', a1, a2, a3⟩ := h1.add (s := op) (v := 0) (x := 0) hq (by decide) (by decide) oc.1 oc.2 (by omega)
  have en : ¬ op = 43 := by omega
  have enots : nots (op :: Eb) = nots Eb := by
    show (if op = 43 then (1 : Int) else 0) + nots Eb = nots Eb
    rw [if_neg en]
    omega
  have elen : ((op :: Eb).length : Int) = (Eb.length : Int) + 1 := by rw [List.length_cons]; omega
  have eE : ((0 : Int) * 256 + opc op, op, (0 : Int)) = opE op := by
    unfold opE
    rw [Int.zero_mul, Int.zero_add]
  rw [eE] at a2
  refine ⟨mC', a1, ⟨a2, ?_, ?_, fun k hk => ?_, fun x hx => ?_, ?_, ?_, by omega⟩, a3⟩
  · unfold XMe at h2 ⊢
    rw [enots, elen, show P + ((Eb.length : Int) + 1) = P + 1 + (Eb.length : Int) from by omega]
    exact h2
  · rw [h3, List.reverse_cons, List.map_append, List.map_singleton, List.append_assoc]
  · cases k with
    | zero =>
      rw [show P + ((0 : Nat) : Int) = P from by omega]
      exact h24
    | succ k =>
      rw [show P + ((k + 1 : Nat) : Int) = P + 1 + (k : Int) from by omega]
      exact h4 k (by simpa using hk)
  · rcases List.mem_cons.mp hx with e | e
    · rw [e]; exact hr2
    · have := h5 x e
      omega
  · have r1 : crel (opc op) op 0 := by
      unfold crel opc
      rcases (by omega : op = 31 ∨ op = 32 ∨ op = 33 ∨ op = 34 ∨ op = 35 ∨ op = 38 ∨ op = 39 ∨ op = 40 ∨ op = 41 ∨ op = 42) with e | e | e | e | e | e | e | e | e | e
      · subst e; decide
      · subst e; decide
      · subst e; decide
      · subst e; decide
      · subst e; decide
      · subst e; decide
      · subst e; decide
      · subst e; decide
      · subst e; decide
      · subst e; decide
    exact h6.push hty (by rw [List.length_cons]; omega) r1 (Or.inr (by omega))
  · rw [List.length_append, List.length_singleton]
    omega
