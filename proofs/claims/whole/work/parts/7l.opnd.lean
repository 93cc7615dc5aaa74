/-! sums and tests: the model's operand -/
def FX (b lo F P : Int) (m m' : zM) : Prop := frB b m m' ∧ (∀ a, 2 ≤ a → a ≤ 18 → a ≠ 15 → a ≠ 16 → m' a = m a) ∧ (∀ j, j < 1600 * b + lo → m' 15 j = m 15 j ∧ m' 16 j = m 16 j) ∧ m' 0 33 = m 0 33 ∧ (∀ j, j < F → m' 19 j = m 19 j ∧ m' 20 j = m 20 j ∧ m' 21 j = m 21 j ∧ m' 22 j = m 22 j ∧ m' 23 j = m 23 j) ∧ ∀ j, j < P → m' 24 j = m 24 j
theorem FX.refl {b lo F P : Int} {m : zM} : FX b lo F P m m := ⟨frB.refl, fun _ _ _ _ _ => rfl, fun _ _ => ⟨rfl, rfl⟩, rfl, fun _ _ => ⟨rfl, rfl, rfl, rfl, rfl⟩, fun _ _ => rfl⟩
theorem FX.trans {b lo F P : Int} {m m' m2 : zM} (h : FX b lo F P m m') (h2 : FX b lo F P m' m2) : FX b lo F P m m2 := by
  obtain ⟨a1, a2, a3, a4, a5, a6⟩ := h
  obtain ⟨b1, b2, b3, b4, b5, b6⟩ := h2
  refine ⟨a1.trans b1, fun a q1 q2 q3 q4 => by rw [b2 a q1 q2 q3 q4, a2 a q1 q2 q3 q4], fun j q => ?_, by rw [b4, a4], fun j q => ?_, fun j q => by rw [b6 j q, a6 j q]⟩
  · rw [(b3 j q).1, (b3 j q).2]; exact a3 j q
  · obtain ⟨c1, c2, c3, c4, c5⟩ := b5 j q
    rw [c1, c2, c3, c4, c5]
    exact a5 j q
theorem FX.mono {b lo F P F' P' : Int} {m m' : zM} (h : FX b lo F P m m') (hF : F' ≤ F) (hP : P' ≤ P) : FX b lo F' P' m m' := ⟨h.1, h.2.1, h.2.2.1, h.2.2.2.1, fun j q => h.2.2.2.2.1 j (by omega), fun j q => h.2.2.2.2.2 j (by omega)⟩
theorem FJ.X {b lo F P : Int} {m m' : zM} (h : FJ b lo m m') (l0 : 0 ≤ lo) : FX b lo F P m m' := by
  obtain ⟨h1, h2, h3⟩ := h
  refine ⟨⟨fun a q => h1 a (by omega) (by omega) (by omega), h1 1 (by decide) (by decide) (by decide), fun j q => h2 j (by omega) (by omega) (by omega), fun a q1 q2 i q3 => ?_⟩, fun a q1 q2 q3 q4 => h1 a (by omega) q3 q4, fun j q => h3 j (Or.inl q), h2 33 (by decide) (by decide) (by decide), fun j _ => by rw [h1 19 (by decide) (by decide) (by decide), h1 20 (by decide) (by decide) (by decide), h1 21 (by decide) (by decide) (by decide), h1 22 (by decide) (by decide) (by decide), h1 23 (by decide) (by decide) (by decide)]; exact ⟨rfl, rfl, rfl, rfl, rfl⟩, fun j _ => by rw [h1 24 (by decide) (by decide) (by decide)]⟩
  by_cases e5 : a = 15
  · subst e5
    have e : bay 15 = 1600 := rfl
    rw [e] at q3
    exact (h3 i (by omega)).1
  · by_cases e6 : a = 16
    · subst e6
      have e : bay 16 = 1600 := rfl
      rw [e] at q3
      exact (h3 i (by omega)).2
    · rw [h1 a (by omega) e5 e6]
theorem frH.X {b lo F P : Int} {m m' : zM} (h : frH m m') : FX b lo F P m m' := by
  have e : ∀ a, a ≠ 0 → m' a = m a := fun a ha => h.G.cell ha
  exact ⟨h.G.B, fun a q1 q2 _ _ => e a (by omega), fun j _ => by rw [e 15 (by decide), e 16 (by decide)]; exact ⟨rfl, rfl⟩, h.2 33 (by decide) (by decide) (by decide) (by decide) (by decide) (by decide), fun j _ => by rw [e 19 (by decide), e 20 (by decide), e 21 (by decide), e 22 (by decide), e 23 (by decide)]; exact ⟨rfl, rfl, rfl, rfl, rfl⟩, fun j _ => by rw [e 24 (by decide)]⟩
theorem FX.put0 {b lo F P j x : Int} {m m' : zM} (h : FX b lo F P m m') (hj : (3 ≤ j ∧ j ≤ 9) ∨ j = 12 ∨ j = 31 ∨ (34 ≤ j ∧ j ≤ 43)) : FX b lo F P m (upm m' 0 j x) := ⟨h.1.put0 (by omega), fun a q1 q2 q3 q4 => by rw [upm_ne (by omega)]; exact h.2.1 a q1 q2 q3 q4, fun k q => by rw [ru1 (by decide), ru1 (by decide)]; exact h.2.2.1 k q, by rw [ru2 (by omega)]; exact h.2.2.2.1, fun k q => by rw [ru1 (by decide), ru1 (by decide), ru1 (by decide), ru1 (by decide), ru1 (by decide)]; exact h.2.2.2.2.1 k q, fun k q => by rw [ru1 (by decide)]; exact h.2.2.2.2.2 k q⟩
theorem FX.putF {b lo F P i x : Int} {a : Nat} {m m' : zM} (h : FX b lo F P m m') (a1 : 19 ≤ a) (a2 : a ≤ 23) (hi : F ≤ i) : FX b lo F P m (upm m' a i x) := ⟨h.1.putX a1 (by omega), fun c q1 q2 q3 q4 => by rw [upm_ne (by omega)]; exact h.2.1 c q1 q2 q3 q4, fun k q => by rw [ru1 (by omega), ru1 (by omega)]; exact h.2.2.1 k q, by rw [ru1 (by omega)]; exact h.2.2.2.1, fun k q => by rw [ru2 (by omega), ru2 (by omega), ru2 (by omega), ru2 (by omega), ru2 (by omega)]; exact h.2.2.2.2.1 k q, fun k q => by rw [ru1 (by omega)]; exact h.2.2.2.2.2 k q⟩
theorem FX.putP {b lo F P i x : Int} {m m' : zM} (h : FX b lo F P m m') (hi : P ≤ i) : FX b lo F P m (upm m' 24 i x) := ⟨h.1.putX (by decide) (by decide), fun c q1 q2 q3 q4 => by rw [upm_ne (by omega)]; exact h.2.1 c q1 q2 q3 q4, fun k q => by rw [ru1 (by decide), ru1 (by decide)]; exact h.2.2.1 k q, by rw [ru1 (by decide)]; exact h.2.2.2.1, fun k q => by rw [ru1 (by decide), ru1 (by decide), ru1 (by decide), ru1 (by decide), ru1 (by decide)]; exact h.2.2.2.2.1 k q, fun k q => by rw [ru2 (by omega)]; exact h.2.2.2.2.2 k q⟩
/-- the model within a sum or a test -/
def XM (c : zX) (b lo may opd i O : Int) (M : List zC) (P D : Int) (m : zM) : Prop := PM c i m ∧ (m 0 32 = b ∧ m 0 33 = may ∧ m 0 39 = D ∧ m 0 40 = O ∧ m 0 42 = P ∧ m 0 43 = opd) ∧ cdM b lo M m
theorem cdM.keep {b lo : Int} {M : List zC} {m m' : zM} (h : cdM b lo M m) (h31 : m' 0 31 = m 0 31) (h15 : m' 15 = m 15) (h16 : m' 16 = m 16) : cdM b lo M m' := by
  unfold cdM at h ⊢
  rw [h31, h15, h16]
  exact h
theorem XM.F {c : zX} {b lo may opd i O P D j x : Int} {a : Nat} {M : List zC} {m : zM} (h : XM c b lo may opd i O M P D m) (a1 : 19 ≤ a) : XM c b lo may opd i O M P D (upm m a j x) := ⟨h.1.u (by omega), by rw [upm_ne (by omega)]; exact h.2.1, h.2.2.keep (ru1 (by omega)) (upm_ne (by omega)) (upm_ne (by omega))⟩
theorem XM.ahead {c : zX} {b lo may opd i O P D : Int} {M : List zC} {m : zM} (hL : LX c) (h : XM c b lo may opd i O M P D m) (hi : i < xl c) : wp (M_ahead m) (fun r => XM c b lo may opd (i + 1) O M P D r ∧ frH m r) := by
  refine wp_mono (h.1.step hL hi) (fun r ⟨r1, r2⟩ => ⟨⟨r1, ?_, h.2.2.keep (r2.2 31 (by decide) (by decide) (by decide) (by decide) (by decide) (by decide)) (r2.G.cell (by decide)) (r2.G.cell (by decide))⟩, r2⟩)
  rw [r2.2 32 (by decide) (by decide) (by decide) (by decide) (by decide) (by decide), r2.2 33 (by decide) (by decide) (by decide) (by decide) (by decide) (by decide), r2.2 39 (by decide) (by decide) (by decide) (by decide) (by decide) (by decide), r2.2 40 (by decide) (by decide) (by decide) (by decide) (by decide) (by decide), r2.2 42 (by decide) (by decide) (by decide) (by decide) (by decide) (by decide), r2.2 43 (by decide) (by decide) (by decide) (by decide) (by decide) (by decide)]
  exact h.2.1
/-- an operand is added, its word passed -/
theorem op_486 {c : zX} {b lo may opd i O P D s x : Int} {M : List zC} {m : zM} (hL : LX c) (b1 : b = 0 ∨ b = 1) (l0 : 0 ≤ lo) (h : XM c b lo may opd i O M P D m) (hi : i < xl c) (l1 : lo + (M.length : Int) < 1600) : wp (M_operand_b486 s m) (fun r => r.1 = 1 ∧ XM c b lo may opd (i + 1) O (M ++ [(x, s, m 0 6)]) P D r.2 ∧ FX b lo 1000 1000 m r.2) := by
  unfold M_operand_b486
  obtain ⟨m1, a1, a2, a3⟩ := add_M (s := s) (v := m 0 6) (x := x) h.2.2 h.2.1.1 b1 l0 l1
  rw [if_neg (show ¬ 0 < m 0 8 by rw [h.1.2.2.2.1]; decide), a1, Option.bind_some]
  have f1 : FJ b lo m m1 := by
    rw [a3]
    exact FJ.refl.add (by omega) l1
  have ea : ∀ j, j ≠ 31 → m1 0 j = m 0 j := fun j hj => by rw [a3, ru2 hj, ru1 (by decide), ru1 (by decide)]
  have h1 : XM c b lo may opd i O (M ++ [(x, s, m 0 6)]) P D m1 := ⟨h.1.keep (f1.1 1 (by decide) (by decide) (by decide)) (fun j hj => f1.2.1 j (by omega) (by omega) (by omega)), by rw [ea 32 (by decide), ea 33 (by decide), ea 39 (by decide), ea 40 (by decide), ea 42 (by decide), ea 43 (by decide)]; exact h.2.1, a2⟩
  exact wp_bm (h1.ahead hL hi) (fun r ⟨r1, r2⟩ => wp_some ⟨rfl, r1, (f1.X l0).trans r2.X⟩)
def isT (K : Int) : Prop := K = 1 ∨ K = 5 ∨ K = 6
theorem isT_1 {K : Int} (h : isT K) : M_isTest K = some 1 := by
  unfold M_isTest
  by_cases h1 : K = 1
  · rw [if_pos h1]
  · rw [if_neg h1]
    by_cases h5 : K = 5
    · rw [if_pos h5]
    · rw [if_neg h5]
      rcases h with w | w | w
      · exact absurd w h1
      · exact absurd w h5
      · rw [if_pos w]
theorem isT_0 {K : Int} (h : ¬ isT K) : M_isTest K = some 0 := by
  unfold M_isTest
  rw [if_neg (fun w => h (Or.inl w)), if_neg (fun w => h (Or.inr (Or.inl w))), if_neg (fun w => h (Or.inr (Or.inr w)))]
theorem iw_fears {c : zX} {i : Int} {m : zM} (h : PM c i m) (h7 : xm c 4 i ≠ 257) : M_isWord 439787549299 m = some (if xm c 4 i = 307 then 1 else 0) := isWord_ok (k := 7) h h7 (by decide)
theorem iw_suits {c : zX} {i : Int} {m : zM} (h : PM c i m) (h7 : xm c 4 i ≠ 257) : M_isWord 495891084403 m = some (if xm c 4 i = 315 then 1 else 0) := isWord_ok (k := 15) h h7 (by decide)
theorem iw_saw {c : zX} {i : Int} {m : zM} (h : PM c i m) (h7 : xm c 4 i ≠ 257) : M_isWord 7561591 m = some (if xm c 4 i = 316 then 1 else 0) := isWord_ok (k := 16) h h7 (by decide)
theorem iw_hour {c : zX} {i : Int} {m : zM} (h : PM c i m) (h7 : xm c 4 i ≠ 257) : M_isWord 1752135026 m = some (if xm c 4 i = 317 then 1 else 0) := isWord_ok (k := 17) h h7 (by decide)
theorem iw_looks {c : zX} {i : Int} {m : zM} (h : PM c i m) (h7 : xm c 4 i ≠ 257) : M_isWord 465726040947 m = some (if xm c 4 i = 318 then 1 else 0) := isWord_ok (k := 18) h h7 (by decide)
theorem iw_smell {c : zX} {i : Int} {m : zM} (h : PM c i m) (h7 : xm c 4 i ≠ 257) : M_isWord 495756602476 m = some (if xm c 4 i = 319 then 1 else 0) := isWord_ok (k := 19) h h7 (by decide)
theorem iw_talk {c : zX} {i : Int} {m : zM} (h : PM c i m) (h7 : xm c 4 i ≠ 257) : M_isWord 1952541803 m = some (if xm c 4 i = 320 then 1 else 0) := isWord_ok (k := 20) h h7 (by decide)
theorem iw_liking {c : zX} {i : Int} {m : zM} (h : PM c i m) (h7 : xm c 4 i ≠ 257) : M_isWord 119200029437543 m = some (if xm c 4 i = 321 then 1 else 0) := isWord_ok (k := 21) h h7 (by decide)
theorem iw_free {c : zX} {i : Int} {m : zM} (h : PM c i m) (h7 : xm c 4 i ≠ 257) : M_isWord 1718773093 m = some (if xm c 4 i = 322 then 1 else 0) := isWord_ok (k := 22) h h7 (by decide)
theorem iw_if {c : zX} {i : Int} {m : zM} (h : PM c i m) (h7 : xm c 4 i ≠ 257) : M_isWord 26982 m = some (if xm c 4 i = 323 then 1 else 0) := isWord_ok (k := 23) h h7 (by decide)
theorem iw_or {c : zX} {i : Int} {m : zM} (h : PM c i m) (h7 : xm c 4 i ≠ 257) : M_isWord 28530 m = some (if xm c 4 i = 324 then 1 else 0) := isWord_ok (k := 24) h h7 (by decide)
theorem iw_and {c : zX} {i : Int} {m : zM} (h : PM c i m) (h7 : xm c 4 i ≠ 257) : M_isWord 6385252 m = some (if xm c 4 i = 325 then 1 else 0) := isWord_ok (k := 25) h h7 (by decide)
theorem iw_not {c : zX} {i : Int} {m : zM} (h : PM c i m) (h7 : xm c 4 i ≠ 257) : M_isWord 7237492 m = some (if xm c 4 i = 326 then 1 else 0) := isWord_ok (k := 26) h h7 (by decide)
theorem iw_all {c : zX} {i : Int} {m : zM} (h : PM c i m) (h7 : xm c 4 i ≠ 257) : M_isWord 6384748 m = some (if xm c 4 i = 327 then 1 else 0) := isWord_ok (k := 27) h h7 (by decide)
theorem iw_min {c : zX} {i : Int} {m : zM} (h : PM c i m) (h7 : xm c 4 i ≠ 257) : M_isWord 7170414 m = some (if xm c 4 i = 328 then 1 else 0) := isWord_ok (k := 28) h h7 (by decide)
theorem iw_max {c : zX} {i : Int} {m : zM} (h : PM c i m) (h7 : xm c 4 i ≠ 257) : M_isWord 7168376 m = some (if xm c 4 i = 329 then 1 else 0) := isWord_ok (k := 29) h h7 (by decide)
theorem op_bad {c : zX} {i : Int} {m : zM} (h : PM c i m) (h7 : xm c 4 i = 257) : M_operand m = some (1, fmM m 1 (plc c 1 i)) := by
  unfold M_operand
  rw [lex_bad h h7, Option.bind_some, if_pos (by rw [fmM_8]; decide)]
theorem op_171 {c : zX} {b lo may opd i O P D : Int} {M : List zC} {m : zM} (h : XM c b lo may opd i O M P D m) (h7 : xm c 4 i ≠ 257) (D0 : 1 ≤ D) (D1 : D ≤ 8) (ht : isT (m 19 (D - 1)) → m 21 (D - 1) = 0 ∨ (xm c 4 i ≠ 326 ∧ xm c 4 i ≠ 91 ∧ xm c 4 i ≠ 327)) : M_operand m = M_operand_b171 (upm m 21 (D - 1) 0) := by
  have h39 := h.2.1.2.2.1
  have q : XM c b lo may opd i O M P D (upm m 21 (D - 1) 0) := h.F (by decide)
  have g0 : M_operand_b45 (D - 1) m = M_operand_b171 (upm m 21 (D - 1) 0) := by
    unfold M_operand_b45 M_operand_b46
    rw [if_pos rfl]
    unfold M_operand_b110
    rw [wr_ok (by omega) (by omega), if_pos rfl]
    unfold M_operand_b137
    rw [if_pos rfl]
  unfold M_operand
  rw [lex_ok h.1 h7, Option.bind_some, if_neg (show ¬ 0 < m 0 8 by rw [h.1.2.2.2.1]; decide), h39, wI_ok (x := D - 1) (by omega) (by omega), lt_ok, rd_ok (by omega) (by omega)]
  by_cases t : isT (m 19 (D - 1))
  · rw [isT_1 t, Option.bind_some, if_neg (by decide), rd_ok (by omega) (by omega)]
    by_cases z : m 21 (D - 1) = 0
    · rw [if_pos z]
      exact g0
    · obtain ⟨k1, k2, k3⟩ : xm c 4 i ≠ 326 ∧ xm c 4 i ≠ 91 ∧ xm c 4 i ≠ 327 := by
        rcases ht t with w | w
        · exact absurd w z
        · exact w
      rw [if_neg z]
      unfold M_operand_b46
      rw [if_neg (by decide), iw_not h.1 h7, Option.bind_some, if_neg k1, if_pos rfl]
      unfold M_operand_b110
      rw [wr_ok (by omega) (by omega), if_neg (by decide), isSign_ok q.1 h7 (by decide), Option.bind_some, if_neg k2, if_pos rfl]
      unfold M_operand_b137
      rw [if_neg (by decide), iw_all q.1 h7, Option.bind_some, if_neg k3, if_pos rfl]
  · rw [isT_0 t, Option.bind_some, if_pos rfl]
    exact g0
theorem op_456 {m : zM} {s : Int} (s0 : 0 ≤ s) (hs : s ≤ 6 ∨ m 0 33 ≠ 0) : M_operand_b456 s m = M_operand_b486 s m := by
  unfold M_operand_b456 M_operand_b472
  by_cases c : 6 < s
  · rw [if_pos c, if_neg (by omega), if_neg (by omega)]
  · rw [if_neg c, if_neg (by omega)]
theorem op_4no {m : zM} {s : Int} (h8 : m 0 8 = 0) (hs : s = -1 ∨ (6 < s ∧ m 0 33 = 0)) : M_operand_b456 s m = some (1, fmM m 1 (m 0 4)) := by
  have e : M_operand_b472 (-1) m = some (1, fmM m 1 (m 0 4)) := by
    unfold M_operand_b472
    rw [if_pos rfl, blame_0 h8, Option.bind_some]
    unfold M_operand_b486
    rw [if_pos (by rw [fmM_8]; decide)]
  unfold M_operand_b456
  rcases hs with w | ⟨w, w2⟩
  · subst w
    rw [if_neg (by decide)]
    exact e
  · rw [if_pos w, if_pos w2]
    exact e
theorem sign_2 {c : zX} {i : Int} {m : zM} (h : PM c i m) : (xm c 4 i = 259 → m 0 3 = 2 ∧ m 0 6 = xm c 6 i ∧ 0 ≤ m 0 6 ∧ m 0 6 ≤ 9999) ∧ (xm c 4 i ≠ 259 → xm c 4 i ≠ 257 → m 0 3 ≠ 2) := by
  rcases h.2.1.2 with ⟨w, w3, _⟩ | ⟨w, _⟩ | ⟨_, w, w3, _⟩ | ⟨w, w3, w6, w7, w8, _⟩ | ⟨w3, _, w4, w⟩
  · exact ⟨fun e => by omega, fun _ _ => by omega⟩
  · exact ⟨fun e => by omega, fun _ e => absurd w e⟩
  · exact ⟨fun e => by omega, fun _ _ => by omega⟩
  · exact ⟨fun _ => ⟨w3, w6, by rw [w6]; exact w7, by rw [w6]; exact w8⟩, fun e => absurd w e⟩
  · refine ⟨fun e => ?_, fun _ _ => by omega⟩
    rcases w with ⟨k, _, k2, _⟩ | ⟨k2, _⟩ <;> omega
theorem b171_num {c : zX} {i : Int} {m : zM} (h : PM c i m) (hk : xm c 4 i = 259) : M_operand_b171 m = M_operand_b486 0 m := by
  have h7 : xm c 4 i ≠ 257 := by omega
  have e3 := ((sign_2 h).1 hk).1
  unfold M_operand_b171
  rw [isSign_ok h h7 (by decide), Option.bind_some, if_neg (show ¬ xm c 4 i = 40 by omega), if_pos (show (0 : Int) = 0 from rfl), iw_min h h7, Option.bind_some, if_neg (show ¬ xm c 4 i = 328 by omega), if_pos (show (0 : Int) = 0 from rfl), iw_max h h7, Option.bind_some, if_neg (show ¬ xm c 4 i = 329 by omega), if_pos (show (0 : Int) = 0 from rfl), iw_if h h7, Option.bind_some, if_neg (show ¬ xm c 4 i = 323 by omega), if_pos (show (0 : Int) = 0 from rfl), if_pos e3]
  exact op_456 (by decide) (Or.inl (by decide))
theorem b171_suits {c : zX} {i : Int} {m : zM} (h : PM c i m) (hk : xm c 4 i = 315) : M_operand_b171 m = M_operand_b486 1 m := by
  have h7 : xm c 4 i ≠ 257 := by omega
  have e3 : ¬ m 0 3 = 2 := (sign_2 h).2 (by omega) h7
  unfold M_operand_b171
  rw [isSign_ok h h7 (by decide), Option.bind_some, if_neg (show ¬ xm c 4 i = 40 by omega), if_pos (show (0 : Int) = 0 from rfl), iw_min h h7, Option.bind_some, if_neg (show ¬ xm c 4 i = 328 by omega), if_pos (show (0 : Int) = 0 from rfl), iw_max h h7, Option.bind_some, if_neg (show ¬ xm c 4 i = 329 by omega), if_pos (show (0 : Int) = 0 from rfl), iw_if h h7, Option.bind_some, if_neg (show ¬ xm c 4 i = 323 by omega), if_pos (show (0 : Int) = 0 from rfl), if_neg e3, iw_suits h h7, Option.bind_some, if_pos hk, if_neg (show ¬ (1 : Int) = 0 by decide)]
  exact op_456 (by decide) (Or.inl (by decide))
theorem b171_saw {c : zX} {i : Int} {m : zM} (h : PM c i m) (hk : xm c 4 i = 316) : M_operand_b171 m = M_operand_b486 2 m := by
  have h7 : xm c 4 i ≠ 257 := by omega
  have e3 : ¬ m 0 3 = 2 := (sign_2 h).2 (by omega) h7
  unfold M_operand_b171
  rw [isSign_ok h h7 (by decide), Option.bind_some, if_neg (show ¬ xm c 4 i = 40 by omega), if_pos (show (0 : Int) = 0 from rfl), iw_min h h7, Option.bind_some, if_neg (show ¬ xm c 4 i = 328 by omega), if_pos (show (0 : Int) = 0 from rfl), iw_max h h7, Option.bind_some, if_neg (show ¬ xm c 4 i = 329 by omega), if_pos (show (0 : Int) = 0 from rfl), iw_if h h7, Option.bind_some, if_neg (show ¬ xm c 4 i = 323 by omega), if_pos (show (0 : Int) = 0 from rfl), if_neg e3, iw_suits h h7, Option.bind_some, if_neg (show ¬ xm c 4 i = 315 by omega), if_pos (show (0 : Int) = 0 from rfl), iw_saw h h7, Option.bind_some, if_pos hk, if_neg (show ¬ (1 : Int) = 0 by decide)]
  exact op_456 (by decide) (Or.inl (by decide))
theorem b171_hour {c : zX} {i : Int} {m : zM} (h : PM c i m) (hk : xm c 4 i = 317) : M_operand_b171 m = M_operand_b486 3 m := by
  have h7 : xm c 4 i ≠ 257 := by omega
  have e3 : ¬ m 0 3 = 2 := (sign_2 h).2 (by omega) h7
  unfold M_operand_b171
  rw [isSign_ok h h7 (by decide), Option.bind_some, if_neg (show ¬ xm c 4 i = 40 by omega), if_pos (show (0 : Int) = 0 from rfl), iw_min h h7, Option.bind_some, if_neg (show ¬ xm c 4 i = 328 by omega), if_pos (show (0 : Int) = 0 from rfl), iw_max h h7, Option.bind_some, if_neg (show ¬ xm c 4 i = 329 by omega), if_pos (show (0 : Int) = 0 from rfl), iw_if h h7, Option.bind_some, if_neg (show ¬ xm c 4 i = 323 by omega), if_pos (show (0 : Int) = 0 from rfl), if_neg e3, iw_suits h h7, Option.bind_some, if_neg (show ¬ xm c 4 i = 315 by omega), if_pos (show (0 : Int) = 0 from rfl), iw_saw h h7, Option.bind_some, if_neg (show ¬ xm c 4 i = 316 by omega), if_pos (show (0 : Int) = 0 from rfl), iw_hour h h7, Option.bind_some, if_pos hk, if_neg (show ¬ (1 : Int) = 0 by decide)]
  exact op_456 (by decide) (Or.inl (by decide))
theorem b171_looks {c : zX} {i : Int} {m : zM} (h : PM c i m) (hk : xm c 4 i = 318) : M_operand_b171 m = M_operand_b486 4 m := by
  have h7 : xm c 4 i ≠ 257 := by omega
  have e3 : ¬ m 0 3 = 2 := (sign_2 h).2 (by omega) h7
  unfold M_operand_b171
  rw [isSign_ok h h7 (by decide), Option.bind_some, if_neg (show ¬ xm c 4 i = 40 by omega), if_pos (show (0 : Int) = 0 from rfl), iw_min h h7, Option.bind_some, if_neg (show ¬ xm c 4 i = 328 by omega), if_pos (show (0 : Int) = 0 from rfl), iw_max h h7, Option.bind_some, if_neg (show ¬ xm c 4 i = 329 by omega), if_pos (show (0 : Int) = 0 from rfl), iw_if h h7, Option.bind_some, if_neg (show ¬ xm c 4 i = 323 by omega), if_pos (show (0 : Int) = 0 from rfl), if_neg e3, iw_suits h h7, Option.bind_some, if_neg (show ¬ xm c 4 i = 315 by omega), if_pos (show (0 : Int) = 0 from rfl), iw_saw h h7, Option.bind_some, if_neg (show ¬ xm c 4 i = 316 by omega), if_pos (show (0 : Int) = 0 from rfl), iw_hour h h7, Option.bind_some, if_neg (show ¬ xm c 4 i = 317 by omega), if_pos (show (0 : Int) = 0 from rfl), iw_looks h h7, Option.bind_some, if_pos hk, if_neg (show ¬ (1 : Int) = 0 by decide)]
  exact op_456 (by decide) (Or.inl (by decide))
theorem b171_smell {c : zX} {i : Int} {m : zM} (h : PM c i m) (hk : xm c 4 i = 319) : M_operand_b171 m = M_operand_b486 5 m := by
  have h7 : xm c 4 i ≠ 257 := by omega
  have e3 : ¬ m 0 3 = 2 := (sign_2 h).2 (by omega) h7
  unfold M_operand_b171
  rw [isSign_ok h h7 (by decide), Option.bind_some, if_neg (show ¬ xm c 4 i = 40 by omega), if_pos (show (0 : Int) = 0 from rfl), iw_min h h7, Option.bind_some, if_neg (show ¬ xm c 4 i = 328 by omega), if_pos (show (0 : Int) = 0 from rfl), iw_max h h7, Option.bind_some, if_neg (show ¬ xm c 4 i = 329 by omega), if_pos (show (0 : Int) = 0 from rfl), iw_if h h7, Option.bind_some, if_neg (show ¬ xm c 4 i = 323 by omega), if_pos (show (0 : Int) = 0 from rfl), if_neg e3, iw_suits h h7, Option.bind_some, if_neg (show ¬ xm c 4 i = 315 by omega), if_pos (show (0 : Int) = 0 from rfl), iw_saw h h7, Option.bind_some, if_neg (show ¬ xm c 4 i = 316 by omega), if_pos (show (0 : Int) = 0 from rfl), iw_hour h h7, Option.bind_some, if_neg (show ¬ xm c 4 i = 317 by omega), if_pos (show (0 : Int) = 0 from rfl), iw_looks h h7, Option.bind_some, if_neg (show ¬ xm c 4 i = 318 by omega), if_pos (show (0 : Int) = 0 from rfl), iw_smell h h7, Option.bind_some, if_pos hk, if_neg (show ¬ (1 : Int) = 0 by decide)]
  exact op_456 (by decide) (Or.inl (by decide))
theorem b171_talk {c : zX} {i : Int} {m : zM} (h : PM c i m) (hk : xm c 4 i = 320) : M_operand_b171 m = M_operand_b486 6 m := by
  have h7 : xm c 4 i ≠ 257 := by omega
  have e3 : ¬ m 0 3 = 2 := (sign_2 h).2 (by omega) h7
  unfold M_operand_b171
  rw [isSign_ok h h7 (by decide), Option.bind_some, if_neg (show ¬ xm c 4 i = 40 by omega), if_pos (show (0 : Int) = 0 from rfl), iw_min h h7, Option.bind_some, if_neg (show ¬ xm c 4 i = 328 by omega), if_pos (show (0 : Int) = 0 from rfl), iw_max h h7, Option.bind_some, if_neg (show ¬ xm c 4 i = 329 by omega), if_pos (show (0 : Int) = 0 from rfl), iw_if h h7, Option.bind_some, if_neg (show ¬ xm c 4 i = 323 by omega), if_pos (show (0 : Int) = 0 from rfl), if_neg e3, iw_suits h h7, Option.bind_some, if_neg (show ¬ xm c 4 i = 315 by omega), if_pos (show (0 : Int) = 0 from rfl), iw_saw h h7, Option.bind_some, if_neg (show ¬ xm c 4 i = 316 by omega), if_pos (show (0 : Int) = 0 from rfl), iw_hour h h7, Option.bind_some, if_neg (show ¬ xm c 4 i = 317 by omega), if_pos (show (0 : Int) = 0 from rfl), iw_looks h h7, Option.bind_some, if_neg (show ¬ xm c 4 i = 318 by omega), if_pos (show (0 : Int) = 0 from rfl), iw_smell h h7, Option.bind_some, if_neg (show ¬ xm c 4 i = 319 by omega), if_pos (show (0 : Int) = 0 from rfl), iw_talk h h7, Option.bind_some, if_pos hk, if_neg (show ¬ (1 : Int) = 0 by decide)]
  exact op_456 (by decide) (Or.inl (by decide))
theorem b171_liking {c : zX} {i : Int} {m : zM} (h : PM c i m) (hk : xm c 4 i = 321) : M_operand_b171 m = M_operand_b456 7 m := by
  have h7 : xm c 4 i ≠ 257 := by omega
  have e3 : ¬ m 0 3 = 2 := (sign_2 h).2 (by omega) h7
  unfold M_operand_b171
  rw [isSign_ok h h7 (by decide), Option.bind_some, if_neg (show ¬ xm c 4 i = 40 by omega), if_pos (show (0 : Int) = 0 from rfl), iw_min h h7, Option.bind_some, if_neg (show ¬ xm c 4 i = 328 by omega), if_pos (show (0 : Int) = 0 from rfl), iw_max h h7, Option.bind_some, if_neg (show ¬ xm c 4 i = 329 by omega), if_pos (show (0 : Int) = 0 from rfl), iw_if h h7, Option.bind_some, if_neg (show ¬ xm c 4 i = 323 by omega), if_pos (show (0 : Int) = 0 from rfl), if_neg e3, iw_suits h h7, Option.bind_some, if_neg (show ¬ xm c 4 i = 315 by omega), if_pos (show (0 : Int) = 0 from rfl), iw_saw h h7, Option.bind_some, if_neg (show ¬ xm c 4 i = 316 by omega), if_pos (show (0 : Int) = 0 from rfl), iw_hour h h7, Option.bind_some, if_neg (show ¬ xm c 4 i = 317 by omega), if_pos (show (0 : Int) = 0 from rfl), iw_looks h h7, Option.bind_some, if_neg (show ¬ xm c 4 i = 318 by omega), if_pos (show (0 : Int) = 0 from rfl), iw_smell h h7, Option.bind_some, if_neg (show ¬ xm c 4 i = 319 by omega), if_pos (show (0 : Int) = 0 from rfl), iw_talk h h7, Option.bind_some, if_neg (show ¬ xm c 4 i = 320 by omega), if_pos (show (0 : Int) = 0 from rfl), iw_liking h h7, Option.bind_some, if_pos hk, if_neg (show ¬ (1 : Int) = 0 by decide)]
theorem b171_fears {c : zX} {i : Int} {m : zM} (h : PM c i m) (hk : xm c 4 i = 307) : M_operand_b171 m = M_operand_b456 8 m := by
  have h7 : xm c 4 i ≠ 257 := by omega
  have e3 : ¬ m 0 3 = 2 := (sign_2 h).2 (by omega) h7
  unfold M_operand_b171
  rw [isSign_ok h h7 (by decide), Option.bind_some, if_neg (show ¬ xm c 4 i = 40 by omega), if_pos (show (0 : Int) = 0 from rfl), iw_min h h7, Option.bind_some, if_neg (show ¬ xm c 4 i = 328 by omega), if_pos (show (0 : Int) = 0 from rfl), iw_max h h7, Option.bind_some, if_neg (show ¬ xm c 4 i = 329 by omega), if_pos (show (0 : Int) = 0 from rfl), iw_if h h7, Option.bind_some, if_neg (show ¬ xm c 4 i = 323 by omega), if_pos (show (0 : Int) = 0 from rfl), if_neg e3, iw_suits h h7, Option.bind_some, if_neg (show ¬ xm c 4 i = 315 by omega), if_pos (show (0 : Int) = 0 from rfl), iw_saw h h7, Option.bind_some, if_neg (show ¬ xm c 4 i = 316 by omega), if_pos (show (0 : Int) = 0 from rfl), iw_hour h h7, Option.bind_some, if_neg (show ¬ xm c 4 i = 317 by omega), if_pos (show (0 : Int) = 0 from rfl), iw_looks h h7, Option.bind_some, if_neg (show ¬ xm c 4 i = 318 by omega), if_pos (show (0 : Int) = 0 from rfl), iw_smell h h7, Option.bind_some, if_neg (show ¬ xm c 4 i = 319 by omega), if_pos (show (0 : Int) = 0 from rfl), iw_talk h h7, Option.bind_some, if_neg (show ¬ xm c 4 i = 320 by omega), if_pos (show (0 : Int) = 0 from rfl), iw_liking h h7, Option.bind_some, if_neg (show ¬ xm c 4 i = 321 by omega), if_pos (show (0 : Int) = 0 from rfl), iw_fears h h7, Option.bind_some, if_pos hk, if_neg (show ¬ (1 : Int) = 0 by decide)]
theorem b171_free {c : zX} {i : Int} {m : zM} (h : PM c i m) (hk : xm c 4 i = 322) : M_operand_b171 m = M_operand_b456 9 m := by
  have h7 : xm c 4 i ≠ 257 := by omega
  have e3 : ¬ m 0 3 = 2 := (sign_2 h).2 (by omega) h7
  unfold M_operand_b171
  rw [isSign_ok h h7 (by decide), Option.bind_some, if_neg (show ¬ xm c 4 i = 40 by omega), if_pos (show (0 : Int) = 0 from rfl), iw_min h h7, Option.bind_some, if_neg (show ¬ xm c 4 i = 328 by omega), if_pos (show (0 : Int) = 0 from rfl), iw_max h h7, Option.bind_some, if_neg (show ¬ xm c 4 i = 329 by omega), if_pos (show (0 : Int) = 0 from rfl), iw_if h h7, Option.bind_some, if_neg (show ¬ xm c 4 i = 323 by omega), if_pos (show (0 : Int) = 0 from rfl), if_neg e3, iw_suits h h7, Option.bind_some, if_neg (show ¬ xm c 4 i = 315 by omega), if_pos (show (0 : Int) = 0 from rfl), iw_saw h h7, Option.bind_some, if_neg (show ¬ xm c 4 i = 316 by omega), if_pos (show (0 : Int) = 0 from rfl), iw_hour h h7, Option.bind_some, if_neg (show ¬ xm c 4 i = 317 by omega), if_pos (show (0 : Int) = 0 from rfl), iw_looks h h7, Option.bind_some, if_neg (show ¬ xm c 4 i = 318 by omega), if_pos (show (0 : Int) = 0 from rfl), iw_smell h h7, Option.bind_some, if_neg (show ¬ xm c 4 i = 319 by omega), if_pos (show (0 : Int) = 0 from rfl), iw_talk h h7, Option.bind_some, if_neg (show ¬ xm c 4 i = 320 by omega), if_pos (show (0 : Int) = 0 from rfl), iw_liking h h7, Option.bind_some, if_neg (show ¬ xm c 4 i = 321 by omega), if_pos (show (0 : Int) = 0 from rfl), iw_fears h h7, Option.bind_some, if_neg (show ¬ xm c 4 i = 307 by omega), if_pos (show (0 : Int) = 0 from rfl), iw_free h h7, Option.bind_some, if_pos hk, if_neg (show ¬ (1 : Int) = 0 by decide)]
theorem b171_no {c : zX} {i : Int} {m : zM} (h : PM c i m) (h7 : xm c 4 i ≠ 257) (k1 : xm c 4 i ≠ 40) (k2 : xm c 4 i ≠ 328) (k3 : xm c 4 i ≠ 329) (k4 : xm c 4 i ≠ 323) (k5 : xm c 4 i ≠ 259) (k6 : xm c 4 i < 315 ∨ 322 < xm c 4 i) (k7 : xm c 4 i ≠ 307) : M_operand_b171 m = M_operand_b456 (-1) m := by
  have e3 : ¬ m 0 3 = 2 := (sign_2 h).2 k5 h7
  unfold M_operand_b171
  rw [isSign_ok h h7 (by decide), Option.bind_some, if_neg (show ¬ xm c 4 i = 40 by omega), if_pos (show (0 : Int) = 0 from rfl), iw_min h h7, Option.bind_some, if_neg (show ¬ xm c 4 i = 328 by omega), if_pos (show (0 : Int) = 0 from rfl), iw_max h h7, Option.bind_some, if_neg (show ¬ xm c 4 i = 329 by omega), if_pos (show (0 : Int) = 0 from rfl), iw_if h h7, Option.bind_some, if_neg (show ¬ xm c 4 i = 323 by omega), if_pos (show (0 : Int) = 0 from rfl), if_neg e3, iw_suits h h7, Option.bind_some, if_neg (show ¬ xm c 4 i = 315 by omega), if_pos (show (0 : Int) = 0 from rfl), iw_saw h h7, Option.bind_some, if_neg (show ¬ xm c 4 i = 316 by omega), if_pos (show (0 : Int) = 0 from rfl), iw_hour h h7, Option.bind_some, if_neg (show ¬ xm c 4 i = 317 by omega), if_pos (show (0 : Int) = 0 from rfl), iw_looks h h7, Option.bind_some, if_neg (show ¬ xm c 4 i = 318 by omega), if_pos (show (0 : Int) = 0 from rfl), iw_smell h h7, Option.bind_some, if_neg (show ¬ xm c 4 i = 319 by omega), if_pos (show (0 : Int) = 0 from rfl), iw_talk h h7, Option.bind_some, if_neg (show ¬ xm c 4 i = 320 by omega), if_pos (show (0 : Int) = 0 from rfl), iw_liking h h7, Option.bind_some, if_neg (show ¬ xm c 4 i = 321 by omega), if_pos (show (0 : Int) = 0 from rfl), iw_fears h h7, Option.bind_some, if_neg (show ¬ xm c 4 i = 307 by omega), if_pos (show (0 : Int) = 0 from rfl), iw_free h h7, Option.bind_some, if_neg (show ¬ xm c 4 i = 322 by omega), if_pos (show (0 : Int) = 0 from rfl)]
theorem b171_par {c : zX} {i : Int} {m : zM} (h : PM c i m) (hk : xm c 4 i = 40) : M_operand_b171 m = (M_opens 2 m).bind (fun r55 => some (0, r55)) := by
  have h7 : xm c 4 i ≠ 257 := by omega
  unfold M_operand_b171
  rw [isSign_ok h h7 (by decide), Option.bind_some, if_pos hk, if_neg (show ¬ (1 : Int) = 0 by decide)]
theorem b171_min {c : zX} {i : Int} {m : zM} (h : PM c i m) (hk : xm c 4 i = 328) : M_operand_b171 m = M_operand_b249 36 m := by
  have h7 : xm c 4 i ≠ 257 := by omega
  unfold M_operand_b171
  rw [isSign_ok h h7 (by decide), Option.bind_some, if_neg (show ¬ xm c 4 i = 40 by omega), if_pos (show (0 : Int) = 0 from rfl), iw_min h h7, Option.bind_some, if_pos hk, if_neg (show ¬ (1 : Int) = 0 by decide)]
  unfold M_operand_b217
  rw [iw_min h h7, Option.bind_some, if_pos hk, if_neg (show ¬ (1 : Int) = 0 by decide)]
theorem b171_max {c : zX} {i : Int} {m : zM} (h : PM c i m) (hk : xm c 4 i = 329) : M_operand_b171 m = M_operand_b249 37 m := by
  have h7 : xm c 4 i ≠ 257 := by omega
  unfold M_operand_b171
  rw [isSign_ok h h7 (by decide), Option.bind_some, if_neg (show ¬ xm c 4 i = 40 by omega), if_pos (show (0 : Int) = 0 from rfl), iw_min h h7, Option.bind_some, if_neg (show ¬ xm c 4 i = 328 by omega), if_pos (show (0 : Int) = 0 from rfl), iw_max h h7, Option.bind_some, if_pos hk, if_neg (show ¬ (1 : Int) = 0 by decide)]
  unfold M_operand_b217
  rw [iw_min h h7, Option.bind_some, if_neg (show ¬ xm c 4 i = 328 by omega), if_pos (show (0 : Int) = 0 from rfl), iw_max h h7, Option.bind_some, if_pos hk, if_neg (show ¬ (1 : Int) = 0 by decide)]
theorem b171_if {c : zX} {i : Int} {m : zM} (h : PM c i m) (hk : xm c 4 i = 323) : M_operand_b171 m = M_operand_b249 44 m := by
  have h7 : xm c 4 i ≠ 257 := by omega
  unfold M_operand_b171
  rw [isSign_ok h h7 (by decide), Option.bind_some, if_neg (show ¬ xm c 4 i = 40 by omega), if_pos (show (0 : Int) = 0 from rfl), iw_min h h7, Option.bind_some, if_neg (show ¬ xm c 4 i = 328 by omega), if_pos (show (0 : Int) = 0 from rfl), iw_max h h7, Option.bind_some, if_neg (show ¬ xm c 4 i = 329 by omega), if_pos (show (0 : Int) = 0 from rfl), iw_if h h7, Option.bind_some, if_pos hk, if_neg (show ¬ (1 : Int) = 0 by decide)]
  unfold M_operand_b217
  rw [iw_min h h7, Option.bind_some, if_neg (show ¬ xm c 4 i = 328 by omega), if_pos (show (0 : Int) = 0 from rfl), iw_max h h7, Option.bind_some, if_neg (show ¬ xm c 4 i = 329 by omega), if_pos (show (0 : Int) = 0 from rfl)]
/-- a bracket is opened -/
def OPN (c : zX) (b lo may opd i o P D K : Int) (M : List zC) (m r : zM) : Prop := XM c b lo may opd (i + 1) (o + 1) M P (D + 1) r ∧ r 19 D = K ∧ r 20 D = 0 ∧ r 21 D = 1 ∧ r 23 D = P ∧ FX b lo D 1000 m r
theorem opens_ok {c : zX} {b lo may opd i o P D K : Int} {M : List zC} {m : zM} (hL : LX c) (h : XM c b lo may opd i o M P D m) (hi : i < xl c) (o0 : 0 ≤ o) (o7 : o < 7) (D0 : 1 ≤ D) (D1 : D ≤ 8) (P0 : 0 ≤ P) (P1 : P ≤ 40) : wp (M_opens K m) (fun r => OPN c b lo may opd i o P D K M m r) := by
  have h40 := h.2.1.2.2.2.1
  unfold M_opens
  rw [if_neg (show ¬ m 0 40 = 7 by omega)]
  unfold M_opens_b18
  rw [if_neg (show ¬ 0 < m 0 8 by rw [h.1.2.2.2.1]; decide), pf_ok, h40, wI_ok (x := o + 1) (by omega) (by omega)]
  have h1 : XM c b lo may opd i (o + 1) M P D (upm m 0 40 (o + 1)) := ⟨h.1.keep (upm_ne (by decide)) (fun j _ => ru2 (by omega)), ⟨by rw [ru2 (by decide)]; exact h.2.1.1, by rw [ru2 (by decide)]; exact h.2.1.2.1, by rw [ru2 (by decide)]; exact h.2.1.2.2.1, ru3 rfl rfl, by rw [ru2 (by decide)]; exact h.2.1.2.2.2.2.1, by rw [ru2 (by decide)]; exact h.2.1.2.2.2.2.2⟩, h.2.2.keep (ru2 (by decide)) (upm_ne (by decide)) (upm_ne (by decide))⟩
  refine wp_bm (h1.ahead hL hi) (fun r ⟨r1, r2⟩ => ?_)
  have f1 : FX b lo D 1000 m r := (FX.refl.put0 (by omega)).trans r2.X
  obtain ⟨p1, ⟨p2, p3, p4, p5, p6, p7⟩, p8⟩ := r1
  unfold M_pushes
  rw [p4, wr_ok (by omega) (by omega), ru1 (by decide), p4, wr_ok (by omega) (by omega), ru1 (by decide), ru1 (by decide), p4, wr_ok (by omega) (by omega), ru1 (by decide), ru1 (by decide), ru1 (by decide), p4, ru1 (by decide), ru1 (by decide), ru1 (by decide), p6, wr_ok (by omega) (by omega), ru1 (by decide), ru1 (by decide), ru1 (by decide), ru1 (by decide), p4, wI_ok (x := D + 1) (by omega) (by omega), pf_ok, Option.bind_some]
  have e0 : ∀ j, j ≠ 39 → upm (upm (upm (upm (upm r 19 D K) 20 D 0) 21 D 1) 23 D P) 0 39 (D + 1) 0 j = r 0 j := fun j hj => by rw [ru2 hj, ru1 (by decide), ru1 (by decide), ru1 (by decide), ru1 (by decide)]
  have ea : ∀ a, a ≠ 0 → a < 19 → upm (upm (upm (upm (upm r 19 D K) 20 D 0) 21 D 1) 23 D P) 0 39 (D + 1) a = r a := fun a h0 ha => by rw [upm_ne h0, upm_ne (by omega), upm_ne (by omega), upm_ne (by omega), upm_ne (by omega)]
  refine wp_some ⟨⟨p1.keep (ea 1 (by decide) (by decide)) (fun j hj => e0 j (by omega)), ⟨by rw [e0 32 (by decide)]; exact p2, by rw [e0 33 (by decide)]; exact p3, ru3 rfl rfl, by rw [e0 40 (by decide)]; exact p5, by rw [e0 42 (by decide)]; exact p6, by rw [e0 43 (by decide)]; exact p7⟩, p8.keep (e0 31 (by decide)) (ea 15 (by decide) (by decide)) (ea 16 (by decide) (by decide))⟩, ?_, ?_, ?_, ?_, ((((f1.putF (by decide) (by decide) (by omega)).putF (by decide) (by decide) (by omega)).putF (by decide) (by decide) (by omega)).putF (by decide) (by decide) (by omega)).put0 (by omega)⟩
  · rw [ru1 (by decide), ru1 (by decide), ru1 (by decide), ru1 (by decide), ru3 rfl rfl]
  · rw [ru1 (by decide), ru1 (by decide), ru1 (by decide), ru3 rfl rfl]
  · rw [ru1 (by decide), ru1 (by decide), ru3 rfl rfl]
  · rw [ru1 (by decide), ru3 rfl rfl]
theorem opens_7 {m : zM} {K : Int} (h8 : m 0 8 = 0) (h40 : m 0 40 = 7) : M_opens K m = some (fmM m 5 (m 0 4)) := by
  unfold M_opens
  rw [if_pos h40, blame_0 h8, Option.bind_some]
  unfold M_opens_b18
  rw [if_pos (by rw [fmM_8]; decide)]
theorem opens_F {m : zM} {K : Int} (h8 : 0 < m 0 8) : M_opens K m = some m := by
  have e : M_opens_b18 K m = some m := by
    unfold M_opens_b18
    rw [if_pos h8]
  unfold M_opens
  by_cases c : m 0 40 = 7
  · rw [if_pos c, blame_1 h8, Option.bind_some, e]
  · rw [if_neg c, e]
