/-! sums and tests: how the model goes on -/
/-- on hold above P: a list, of ranks no less; below it comes what stays -/
def HD (least P D : Int) (Eb : List Int) (m : zM) : Prop := (∀ k : Nat, k < Eb.length → m 24 (P + (k : Int)) = Eb.getD k 0) ∧ (∀ op ∈ Eb, least ≤ rkV op) ∧ m 23 (D - 1) ≤ P ∧ 0 ≤ m 23 (D - 1) ∧ (P = m 23 (D - 1) ∨ rkV (m 24 (P - 1)) < least)
def XMe (c : zX) (b lo may opd i o : Int) (M : List zC) (Eb : List Int) (P D : Int) (m : zM) : Prop := XM c b lo may opd i (o + nots Eb) M (P + (Eb.length : Int)) D m
theorem joins_X {c : zX} {b lo may opd i o P D least : Int} {M : List zC} {Eb : List Int} {m : zM} (b1 : b = 0 ∨ b = 1) (l0 : 0 ≤ lo) (o0 : 0 ≤ o) (o1 : o ≤ 7) (D0 : 1 ≤ D) (D1 : D ≤ 8) (P0 : 0 ≤ P) (h : XMe c b lo may opd i o M Eb P D m) (hd : HD least P D Eb m) (hl : lo + (M.length : Int) + (Eb.length : Int) ≤ 1600) (hp : P + (Eb.length : Int) ≤ 500) : ∃ m', M_joins least m = some m' ∧ XM c b lo may opd i o (M ++ (Eb.reverse).map opE) P D m' ∧ FJ b lo m m' := by
  obtain ⟨h1, ⟨h2, h3, h4, h5, h6, h7⟩, h8⟩ := h
  obtain ⟨d1, d2, d3, d4, d5⟩ := hd
  obtain ⟨m', a1, a2, a3, a4, a5⟩ := joins_M b1 l0 D0 D1 P0 o0 o1 Eb.length Eb M m rfl h8 h2 h4 h6 h5 d1 d2 d3 d5 d4 hl hp 1000000 (by omega)
  refine ⟨m', a1, ⟨h1.keep (a5.1 1 (by decide) (by decide) (by decide)) (fun j hj => a5.2.1 j (by omega) (by omega) (by omega)), ⟨?_, ?_, ?_, a4, a3, ?_⟩, a2⟩, a5⟩
  · rw [a5.2.1 32 (by decide) (by decide) (by decide)]; exact h2
  · rw [a5.2.1 33 (by decide) (by decide) (by decide)]; exact h3
  · rw [a5.2.1 39 (by decide) (by decide) (by decide)]; exact h4
  · rw [a5.2.1 43 (by decide) (by decide) (by decide)]; exact h7
theorem hold_ok {c : zX} {b lo may opd i o P D op : Int} {M : List zC} {m : zM} (h : XM c b lo may opd i o M P D m) (P0 : 0 ≤ P) (P1 : P < 500) : M_holdsBack op m = some (upm (upm m 24 P op) 0 42 (P + 1)) ∧ XM c b lo may opd i o M (P + 1) D (upm (upm m 24 P op) 0 42 (P + 1)) := by
  obtain ⟨h1, ⟨h2, h3, h4, h5, h6, h7⟩, h8⟩ := h
  have e0 : ∀ j, j ≠ 42 → upm (upm m 24 P op) 0 42 (P + 1) 0 j = m 0 j := fun j hj => by rw [ru2 hj, ru1 (by decide)]
  have ea : ∀ a, a ≠ 0 → a ≠ 24 → upm (upm m 24 P op) 0 42 (P + 1) a = m a := fun a q1 q2 => by rw [upm_ne q1, upm_ne q2]
  constructor
  · unfold M_holdsBack
    rw [h6, wr_ok P0 (by omega), ru1 (by decide), h6, wI_ok (by omega) (by omega), pf_ok]
  · exact ⟨h1.keep (ea 1 (by decide) (by decide)) (fun j hj => e0 j (by omega)), ⟨by rw [e0 32 (by decide)]; exact h2, by rw [e0 33 (by decide)]; exact h3, by rw [e0 39 (by decide)]; exact h4, by rw [e0 40 (by decide)]; exact h5, ru3 rfl rfl, by rw [e0 43 (by decide)]; exact h7⟩, h8.keep (e0 31 (by decide)) (ea 15 (by decide) (by decide)) (ea 16 (by decide) (by decide))⟩
theorem XM.o43 {c : zX} {b lo may opd i O P D x : Int} {M : List zC} {m : zM} (h : XM c b lo may opd i O M P D m) : XM c b lo may x i O M P D (upm m 0 43 x) := by
  obtain ⟨h1, ⟨h2, h3, h4, h5, h6, h7⟩, h8⟩ := h
  have e0 : ∀ j, j ≠ 43 → upm m 0 43 x 0 j = m 0 j := fun j hj => ru2 hj
  exact ⟨h1.keep (upm_ne (by decide)) (fun j hj => e0 j (by omega)), ⟨by rw [e0 32 (by decide)]; exact h2, by rw [e0 33 (by decide)]; exact h3, by rw [e0 39 (by decide)]; exact h4, by rw [e0 40 (by decide)]; exact h5, by rw [e0 42 (by decide)]; exact h6, ru3 rfl rfl⟩, h8.keep (e0 31 (by decide)) (upm_ne (by decide)) (upm_ne (by decide))⟩
theorem go_bad {c : zX} {i : Int} {m : zM} (h : PM c i m) (h7 : xm c 4 i = 257) : M_goesOn m = some (0, fmM m 1 (plc c 1 i)) := by
  unfold M_goesOn
  rw [lex_bad h h7, Option.bind_some, if_pos (by rw [fmM_8]; decide)]
/-- one operator behind what is popped -/
def GO1 (c : zX) (b lo may i o P D op : Int) (M : List zC) (Eb : List Int) (m : zM) (r : Int × zM) : Prop := r.1 = 1 ∧ XM c b lo may 0 (i + 1) o (M ++ (Eb.reverse).map opE) (P + 1) D r.2 ∧ r.2 24 P = op
theorem go_tk {c : zX} {b lo may opd i o P D : Int} {M : List zC} {m : zM} (h : XM c b lo may opd i o M P D m) (h7 : xm c 4 i ≠ 257) (D0 : 1 ≤ D) (D1 : D ≤ 8) : M_goesOn m = (M_isTest (m 19 (D - 1))).bind (fun r9 => (if m 20 (D - 1) < 2 then
  (M_isSign 43 m).bind (fun r14 =>
  (if r14 = 0 then
  (M_isSign 45 m).bind (fun r18 =>
  (if r18 = 0 then
  (M_isSign 42 m).bind (fun r22 =>
  (if r22 = 0 then
  (M_isSign 47 m).bind (fun r26 =>
  (if r26 = 0 then
  (M_isSign 37 m).bind (fun r30 =>
  (if r30 = 0 then
  M_goesOn_b188 (D - 1) (m 19 (D - 1)) r9 m
  else M_goesOn_b87 m))
  else M_goesOn_b87 m))
  else M_goesOn_b87 m))
  else M_goesOn_b87 m))
  else M_goesOn_b87 m))
  else M_goesOn_b188 (D - 1) (m 19 (D - 1)) r9 m)) := by
  unfold M_goesOn
  rw [lex_ok h.1 h7, Option.bind_some, if_neg (show ¬ 0 < m 0 8 by rw [h.1.2.2.2.1]; decide), h.2.1.2.2.1, wI_ok (x := D - 1) (by omega) (by omega), lt_ok, rd_ok (by omega) (by omega)]
  refine congrArg (fun f => (M_isTest (m 19 (D - 1))).bind f) (funext fun r9 => ?_)
  rw [rd_ok (by omega) (by omega)]
theorem isT_e (K : Int) : ∃ r, M_isTest K = some r ∧ ((isT K ∧ r = 1) ∨ (¬ isT K ∧ r = 0)) := by
  by_cases t : isT K
  · exact ⟨1, isT_1 t, Or.inl ⟨t, rfl⟩⟩
  · exact ⟨0, isT_0 t, Or.inr ⟨t, rfl⟩⟩
/-- not an operator of a sum -/
theorem go_188 {c : zX} {b lo may opd i o P D : Int} {M : List zC} {m : zM} (h : XM c b lo may opd i o M P D m) (h7 : xm c 4 i ≠ 257) (D0 : 1 ≤ D) (D1 : D ≤ 8) (hs : m 20 (D - 1) < 2 → xm c 4 i ≠ 43 ∧ xm c 4 i ≠ 45 ∧ xm c 4 i ≠ 42 ∧ xm c 4 i ≠ 47 ∧ xm c 4 i ≠ 37) : M_goesOn m = (M_isTest (m 19 (D - 1))).bind (fun r9 => M_goesOn_b188 (D - 1) (m 19 (D - 1)) r9 m) := by
  rw [go_tk h h7 D0 D1]
  refine congrArg (fun f => (M_isTest (m 19 (D - 1))).bind f) (funext fun r9 => ?_)
  by_cases c2 : m 20 (D - 1) < 2
  · obtain ⟨k1, k2, k3, k4, k5⟩ := hs c2
    rw [if_pos c2, isSign_ok h.1 h7 (by decide), Option.bind_some, if_neg k1, if_pos (show (0 : Int) = 0 from rfl), isSign_ok h.1 h7 (by decide), Option.bind_some, if_neg k2, if_pos (show (0 : Int) = 0 from rfl), isSign_ok h.1 h7 (by decide), Option.bind_some, if_neg k3, if_pos (show (0 : Int) = 0 from rfl), isSign_ok h.1 h7 (by decide), Option.bind_some, if_neg k4, if_pos (show (0 : Int) = 0 from rfl), isSign_ok h.1 h7 (by decide), Option.bind_some, if_neg k5, if_pos (show (0 : Int) = 0 from rfl)]
  · rw [if_neg c2]
theorem go_s43 {c : zX} {b lo may i o P D : Int} {M : List zC} {Eb : List Int} {m : zM} (hL : LX c) (b1 : b = 0 ∨ b = 1) (l0 : 0 ≤ lo) (o0 : 0 ≤ o) (o1 : o ≤ 7) (D0 : 1 ≤ D) (D1 : D ≤ 8) (P0 : 0 ≤ P) (P1 : P ≤ 40) (h : XMe c b lo may 1 i o M Eb P D m) (hd : HD 5 P D Eb m) (hl : lo + (M.length : Int) + (Eb.length : Int) ≤ 1600) (hp : P + (Eb.length : Int) ≤ 500) (hk : xm c 4 i = 43) (hph : m 20 (D - 1) < 2) : wp (M_goesOn m) (fun r => GO1 c b lo may i o P D 31 M Eb m r ∧ FX b lo 1000 P m r.2) := by
  have h7 : xm c 4 i ≠ 257 := by omega
  have hi := h.1.lt hL (by omega) h7
  obtain ⟨t, t1, _⟩ := isT_e (m 19 (D - 1))
  rw [go_tk h h7 D0 D1, t1, Option.bind_some, if_pos hph, isSign_ok h.1 h7 (by decide), Option.bind_some, if_pos hk, if_neg (show ¬ (1 : Int) = 0 by decide)]
  unfold M_goesOn_b87
  rw [isSign_ok h.1 h7 (by decide), Option.bind_some, if_pos hk, if_neg (show ¬ (1 : Int) = 0 by decide)]
  unfold M_goesOn_b106
  unfold M_goesOn_b112
  obtain ⟨m1, a1, q1, f1⟩ := joins_X b1 l0 o0 o1 D0 D1 P0 h hd hl hp
  obtain ⟨g1, g2⟩ := hold_ok (op := 31) q1 P0 (by omega)
  rw [a1, Option.bind_some, isSign_ok q1.1 h7 (by decide), Option.bind_some, if_pos hk, if_neg (show ¬ (1 : Int) = 0 by decide), g1, Option.bind_some]
  refine wp_bm (g2.ahead hL hi) (fun r ⟨r1, r2⟩ => ?_)
  rw [pf_ok]
  refine wp_some ⟨⟨rfl, r1.o43, ?_⟩, ((((f1.X l0).putP (by omega)).put0 (by omega)).trans r2.X).put0 (by omega)⟩
  show upm r 0 43 0 24 P = _
  rw [ru1 (by decide), r2.G.cell (by decide), ru1 (by decide), ru3 rfl rfl]
theorem go_s45 {c : zX} {b lo may i o P D : Int} {M : List zC} {Eb : List Int} {m : zM} (hL : LX c) (b1 : b = 0 ∨ b = 1) (l0 : 0 ≤ lo) (o0 : 0 ≤ o) (o1 : o ≤ 7) (D0 : 1 ≤ D) (D1 : D ≤ 8) (P0 : 0 ≤ P) (P1 : P ≤ 40) (h : XMe c b lo may 1 i o M Eb P D m) (hd : HD 5 P D Eb m) (hl : lo + (M.length : Int) + (Eb.length : Int) ≤ 1600) (hp : P + (Eb.length : Int) ≤ 500) (hk : xm c 4 i = 45) (hph : m 20 (D - 1) < 2) : wp (M_goesOn m) (fun r => GO1 c b lo may i o P D 32 M Eb m r ∧ FX b lo 1000 P m r.2) := by
  have h7 : xm c 4 i ≠ 257 := by omega
  have hi := h.1.lt hL (by omega) h7
  obtain ⟨t, t1, _⟩ := isT_e (m 19 (D - 1))
  rw [go_tk h h7 D0 D1, t1, Option.bind_some, if_pos hph, isSign_ok h.1 h7 (by decide), Option.bind_some, if_neg (show ¬ xm c 4 i = 43 by omega), if_pos (show (0 : Int) = 0 from rfl), isSign_ok h.1 h7 (by decide), Option.bind_some, if_pos hk, if_neg (show ¬ (1 : Int) = 0 by decide)]
  unfold M_goesOn_b87
  rw [isSign_ok h.1 h7 (by decide), Option.bind_some, if_neg (show ¬ xm c 4 i = 43 by omega), if_pos (show (0 : Int) = 0 from rfl), isSign_ok h.1 h7 (by decide), Option.bind_some, if_pos hk, if_neg (show ¬ (1 : Int) = 0 by decide)]
  unfold M_goesOn_b106
  unfold M_goesOn_b112
  obtain ⟨m1, a1, q1, f1⟩ := joins_X b1 l0 o0 o1 D0 D1 P0 h hd hl hp
  obtain ⟨g1, g2⟩ := hold_ok (op := 32) q1 P0 (by omega)
  rw [a1, Option.bind_some, isSign_ok q1.1 h7 (by decide), Option.bind_some, if_neg (show ¬ xm c 4 i = 43 by omega), if_pos (show (0 : Int) = 0 from rfl), isSign_ok q1.1 h7 (by decide), Option.bind_some, if_pos hk, if_neg (show ¬ (1 : Int) = 0 by decide), g1, Option.bind_some]
  refine wp_bm (g2.ahead hL hi) (fun r ⟨r1, r2⟩ => ?_)
  rw [pf_ok]
  refine wp_some ⟨⟨rfl, r1.o43, ?_⟩, ((((f1.X l0).putP (by omega)).put0 (by omega)).trans r2.X).put0 (by omega)⟩
  show upm r 0 43 0 24 P = _
  rw [ru1 (by decide), r2.G.cell (by decide), ru1 (by decide), ru3 rfl rfl]
theorem go_s42 {c : zX} {b lo may i o P D : Int} {M : List zC} {Eb : List Int} {m : zM} (hL : LX c) (b1 : b = 0 ∨ b = 1) (l0 : 0 ≤ lo) (o0 : 0 ≤ o) (o1 : o ≤ 7) (D0 : 1 ≤ D) (D1 : D ≤ 8) (P0 : 0 ≤ P) (P1 : P ≤ 40) (h : XMe c b lo may 1 i o M Eb P D m) (hd : HD 6 P D Eb m) (hl : lo + (M.length : Int) + (Eb.length : Int) ≤ 1600) (hp : P + (Eb.length : Int) ≤ 500) (hk : xm c 4 i = 42) (hph : m 20 (D - 1) < 2) : wp (M_goesOn m) (fun r => GO1 c b lo may i o P D 33 M Eb m r ∧ FX b lo 1000 P m r.2) := by
  have h7 : xm c 4 i ≠ 257 := by omega
  have hi := h.1.lt hL (by omega) h7
  obtain ⟨t, t1, _⟩ := isT_e (m 19 (D - 1))
  rw [go_tk h h7 D0 D1, t1, Option.bind_some, if_pos hph, isSign_ok h.1 h7 (by decide), Option.bind_some, if_neg (show ¬ xm c 4 i = 43 by omega), if_pos (show (0 : Int) = 0 from rfl), isSign_ok h.1 h7 (by decide), Option.bind_some, if_neg (show ¬ xm c 4 i = 45 by omega), if_pos (show (0 : Int) = 0 from rfl), isSign_ok h.1 h7 (by decide), Option.bind_some, if_pos hk, if_neg (show ¬ (1 : Int) = 0 by decide)]
  unfold M_goesOn_b87
  rw [isSign_ok h.1 h7 (by decide), Option.bind_some, if_neg (show ¬ xm c 4 i = 43 by omega), if_pos (show (0 : Int) = 0 from rfl), isSign_ok h.1 h7 (by decide), Option.bind_some, if_neg (show ¬ xm c 4 i = 45 by omega), if_pos (show (0 : Int) = 0 from rfl)]
  unfold M_goesOn_b112
  obtain ⟨m1, a1, q1, f1⟩ := joins_X b1 l0 o0 o1 D0 D1 P0 h hd hl hp
  obtain ⟨g1, g2⟩ := hold_ok (op := 33) q1 P0 (by omega)
  rw [a1, Option.bind_some, isSign_ok q1.1 h7 (by decide), Option.bind_some, if_neg (show ¬ xm c 4 i = 43 by omega), if_pos (show (0 : Int) = 0 from rfl), isSign_ok q1.1 h7 (by decide), Option.bind_some, if_neg (show ¬ xm c 4 i = 45 by omega), if_pos (show (0 : Int) = 0 from rfl), isSign_ok q1.1 h7 (by decide), Option.bind_some, if_pos hk, if_neg (show ¬ (1 : Int) = 0 by decide), g1, Option.bind_some]
  refine wp_bm (g2.ahead hL hi) (fun r ⟨r1, r2⟩ => ?_)
  rw [pf_ok]
  refine wp_some ⟨⟨rfl, r1.o43, ?_⟩, ((((f1.X l0).putP (by omega)).put0 (by omega)).trans r2.X).put0 (by omega)⟩
  show upm r 0 43 0 24 P = _
  rw [ru1 (by decide), r2.G.cell (by decide), ru1 (by decide), ru3 rfl rfl]
theorem go_s47 {c : zX} {b lo may i o P D : Int} {M : List zC} {Eb : List Int} {m : zM} (hL : LX c) (b1 : b = 0 ∨ b = 1) (l0 : 0 ≤ lo) (o0 : 0 ≤ o) (o1 : o ≤ 7) (D0 : 1 ≤ D) (D1 : D ≤ 8) (P0 : 0 ≤ P) (P1 : P ≤ 40) (h : XMe c b lo may 1 i o M Eb P D m) (hd : HD 6 P D Eb m) (hl : lo + (M.length : Int) + (Eb.length : Int) ≤ 1600) (hp : P + (Eb.length : Int) ≤ 500) (hk : xm c 4 i = 47) (hph : m 20 (D - 1) < 2) : wp (M_goesOn m) (fun r => GO1 c b lo may i o P D 34 M Eb m r ∧ FX b lo 1000 P m r.2) := by
  have h7 : xm c 4 i ≠ 257 := by omega
  have hi := h.1.lt hL (by omega) h7
  obtain ⟨t, t1, _⟩ := isT_e (m 19 (D - 1))
  rw [go_tk h h7 D0 D1, t1, Option.bind_some, if_pos hph, isSign_ok h.1 h7 (by decide), Option.bind_some, if_neg (show ¬ xm c 4 i = 43 by omega), if_pos (show (0 : Int) = 0 from rfl), isSign_ok h.1 h7 (by decide), Option.bind_some, if_neg (show ¬ xm c 4 i = 45 by omega), if_pos (show (0 : Int) = 0 from rfl), isSign_ok h.1 h7 (by decide), Option.bind_some, if_neg (show ¬ xm c 4 i = 42 by omega), if_pos (show (0 : Int) = 0 from rfl), isSign_ok h.1 h7 (by decide), Option.bind_some, if_pos hk, if_neg (show ¬ (1 : Int) = 0 by decide)]
  unfold M_goesOn_b87
  rw [isSign_ok h.1 h7 (by decide), Option.bind_some, if_neg (show ¬ xm c 4 i = 43 by omega), if_pos (show (0 : Int) = 0 from rfl), isSign_ok h.1 h7 (by decide), Option.bind_some, if_neg (show ¬ xm c 4 i = 45 by omega), if_pos (show (0 : Int) = 0 from rfl)]
  unfold M_goesOn_b112
  obtain ⟨m1, a1, q1, f1⟩ := joins_X b1 l0 o0 o1 D0 D1 P0 h hd hl hp
  obtain ⟨g1, g2⟩ := hold_ok (op := 34) q1 P0 (by omega)
  rw [a1, Option.bind_some, isSign_ok q1.1 h7 (by decide), Option.bind_some, if_neg (show ¬ xm c 4 i = 43 by omega), if_pos (show (0 : Int) = 0 from rfl), isSign_ok q1.1 h7 (by decide), Option.bind_some, if_neg (show ¬ xm c 4 i = 45 by omega), if_pos (show (0 : Int) = 0 from rfl), isSign_ok q1.1 h7 (by decide), Option.bind_some, if_neg (show ¬ xm c 4 i = 42 by omega), if_pos (show (0 : Int) = 0 from rfl), isSign_ok q1.1 h7 (by decide), Option.bind_some, if_pos hk, if_neg (show ¬ (1 : Int) = 0 by decide), g1, Option.bind_some]
  refine wp_bm (g2.ahead hL hi) (fun r ⟨r1, r2⟩ => ?_)
  rw [pf_ok]
  refine wp_some ⟨⟨rfl, r1.o43, ?_⟩, ((((f1.X l0).putP (by omega)).put0 (by omega)).trans r2.X).put0 (by omega)⟩
  show upm r 0 43 0 24 P = _
  rw [ru1 (by decide), r2.G.cell (by decide), ru1 (by decide), ru3 rfl rfl]
theorem go_s37 {c : zX} {b lo may i o P D : Int} {M : List zC} {Eb : List Int} {m : zM} (hL : LX c) (b1 : b = 0 ∨ b = 1) (l0 : 0 ≤ lo) (o0 : 0 ≤ o) (o1 : o ≤ 7) (D0 : 1 ≤ D) (D1 : D ≤ 8) (P0 : 0 ≤ P) (P1 : P ≤ 40) (h : XMe c b lo may 1 i o M Eb P D m) (hd : HD 6 P D Eb m) (hl : lo + (M.length : Int) + (Eb.length : Int) ≤ 1600) (hp : P + (Eb.length : Int) ≤ 500) (hk : xm c 4 i = 37) (hph : m 20 (D - 1) < 2) : wp (M_goesOn m) (fun r => GO1 c b lo may i o P D 35 M Eb m r ∧ FX b lo 1000 P m r.2) := by
  have h7 : xm c 4 i ≠ 257 := by omega
  have hi := h.1.lt hL (by omega) h7
  obtain ⟨t, t1, _⟩ := isT_e (m 19 (D - 1))
  rw [go_tk h h7 D0 D1, t1, Option.bind_some, if_pos hph, isSign_ok h.1 h7 (by decide), Option.bind_some, if_neg (show ¬ xm c 4 i = 43 by omega), if_pos (show (0 : Int) = 0 from rfl), isSign_ok h.1 h7 (by decide), Option.bind_some, if_neg (show ¬ xm c 4 i = 45 by omega), if_pos (show (0 : Int) = 0 from rfl), isSign_ok h.1 h7 (by decide), Option.bind_some, if_neg (show ¬ xm c 4 i = 42 by omega), if_pos (show (0 : Int) = 0 from rfl), isSign_ok h.1 h7 (by decide), Option.bind_some, if_neg (show ¬ xm c 4 i = 47 by omega), if_pos (show (0 : Int) = 0 from rfl), isSign_ok h.1 h7 (by decide), Option.bind_some, if_pos hk, if_neg (show ¬ (1 : Int) = 0 by decide)]
  unfold M_goesOn_b87
  rw [isSign_ok h.1 h7 (by decide), Option.bind_some, if_neg (show ¬ xm c 4 i = 43 by omega), if_pos (show (0 : Int) = 0 from rfl), isSign_ok h.1 h7 (by decide), Option.bind_some, if_neg (show ¬ xm c 4 i = 45 by omega), if_pos (show (0 : Int) = 0 from rfl)]
  unfold M_goesOn_b112
  obtain ⟨m1, a1, q1, f1⟩ := joins_X b1 l0 o0 o1 D0 D1 P0 h hd hl hp
  obtain ⟨g1, g2⟩ := hold_ok (op := 35) q1 P0 (by omega)
  rw [a1, Option.bind_some, isSign_ok q1.1 h7 (by decide), Option.bind_some, if_neg (show ¬ xm c 4 i = 43 by omega), if_pos (show (0 : Int) = 0 from rfl), isSign_ok q1.1 h7 (by decide), Option.bind_some, if_neg (show ¬ xm c 4 i = 45 by omega), if_pos (show (0 : Int) = 0 from rfl), isSign_ok q1.1 h7 (by decide), Option.bind_some, if_neg (show ¬ xm c 4 i = 42 by omega), if_pos (show (0 : Int) = 0 from rfl), isSign_ok q1.1 h7 (by decide), Option.bind_some, if_neg (show ¬ xm c 4 i = 47 by omega), if_pos (show (0 : Int) = 0 from rfl), g1, Option.bind_some]
  refine wp_bm (g2.ahead hL hi) (fun r ⟨r1, r2⟩ => ?_)
  rw [pf_ok]
  refine wp_some ⟨⟨rfl, r1.o43, ?_⟩, ((((f1.X l0).putP (by omega)).put0 (by omega)).trans r2.X).put0 (by omega)⟩
  show upm r 0 43 0 24 P = _
  rw [ru1 (by decide), r2.G.cell (by decide), ru1 (by decide), ru3 rfl rfl]
theorem go_c60 {c : zX} {b lo may i o P D : Int} {M : List zC} {Eb : List Int} {m : zM} (hL : LX c) (b1 : b = 0 ∨ b = 1) (l0 : 0 ≤ lo) (o0 : 0 ≤ o) (o1 : o ≤ 7) (D0 : 1 ≤ D) (D1 : D ≤ 8) (P0 : 0 ≤ P) (P1 : P ≤ 40) (h : XMe c b lo may 1 i o M Eb P D m) (hd : HD 5 P D Eb m) (hl : lo + (M.length : Int) + (Eb.length : Int) ≤ 1600) (hp : P + (Eb.length : Int) ≤ 500) (hk : xm c 4 i = 60) (hT : isT (m 19 (D - 1))) (hph : m 20 (D - 1) = 0) : wp (M_goesOn m) (fun r => GO1 c b lo may i o P D 38 M Eb m r ∧ FX b lo (D - 1) P m r.2 ∧ r.2 20 (D - 1) = 1 ∧ ∀ a, a = 19 ∨ a = 21 ∨ a = 22 ∨ a = 23 → r.2 a = m a) := by
  have h7 : xm c 4 i ≠ 257 := by omega
  have hi := h.1.lt hL (by omega) h7
  rw [go_188 h h7 D0 D1 (fun _ => by omega), isT_1 hT, Option.bind_some]
  unfold M_goesOn_b188
  rw [if_neg (show ¬ (1 : Int) = 0 by decide), rd_ok (by omega) (by omega), if_pos hph, isSign_ok h.1 h7 (by decide), Option.bind_some, if_pos hk, if_neg (show ¬ (1 : Int) = 0 by decide)]
  unfold M_goesOn_b228
  obtain ⟨m1, a1, q1, f1⟩ := joins_X b1 l0 o0 o1 D0 D1 P0 h hd hl hp
  obtain ⟨g1, g2⟩ := hold_ok (op := 38) q1 P0 (by omega)
  rw [a1, Option.bind_some, isSign_ok q1.1 h7 (by decide), Option.bind_some, if_pos hk, if_neg (show ¬ (1 : Int) = 0 by decide)]
  unfold M_goesOn_b264
  rw [g1, Option.bind_some, wr_ok (by omega) (by omega)]
  refine wp_bm ((g2.F (a := 20) (j := D - 1) (x := 1) (by decide)).ahead hL hi) (fun r ⟨r1, r2⟩ => ?_)
  rw [pf_ok]
  refine wp_some ⟨⟨rfl, r1.o43, ?_⟩, (((((f1.X l0).putP (by omega)).put0 (by omega)).putF (by decide) (by decide) (by omega)).trans r2.X).put0 (by omega), ?_, fun a ha => ?_⟩
  · show upm r 0 43 0 24 P = _
    rw [ru1 (by decide), r2.G.cell (by decide), ru1 (by decide), ru1 (by decide), ru3 rfl rfl]
  · show upm r 0 43 0 20 (D - 1) = _
    rw [ru1 (by decide), r2.G.cell (by decide), ru3 rfl rfl]
  · show upm r 0 43 0 a = _
    rw [upm_ne (by omega), r2.G.cell (by omega), upm_ne (by omega), upm_ne (by omega), upm_ne (by omega), f1.1 a (by omega) (by omega) (by omega)]
theorem go_c62 {c : zX} {b lo may i o P D : Int} {M : List zC} {Eb : List Int} {m : zM} (hL : LX c) (b1 : b = 0 ∨ b = 1) (l0 : 0 ≤ lo) (o0 : 0 ≤ o) (o1 : o ≤ 7) (D0 : 1 ≤ D) (D1 : D ≤ 8) (P0 : 0 ≤ P) (P1 : P ≤ 40) (h : XMe c b lo may 1 i o M Eb P D m) (hd : HD 5 P D Eb m) (hl : lo + (M.length : Int) + (Eb.length : Int) ≤ 1600) (hp : P + (Eb.length : Int) ≤ 500) (hk : xm c 4 i = 62) (hT : isT (m 19 (D - 1))) (hph : m 20 (D - 1) = 0) : wp (M_goesOn m) (fun r => GO1 c b lo may i o P D 39 M Eb m r ∧ FX b lo (D - 1) P m r.2 ∧ r.2 20 (D - 1) = 1 ∧ ∀ a, a = 19 ∨ a = 21 ∨ a = 22 ∨ a = 23 → r.2 a = m a) := by
  have h7 : xm c 4 i ≠ 257 := by omega
  have hi := h.1.lt hL (by omega) h7
  rw [go_188 h h7 D0 D1 (fun _ => by omega), isT_1 hT, Option.bind_some]
  unfold M_goesOn_b188
  rw [if_neg (show ¬ (1 : Int) = 0 by decide), rd_ok (by omega) (by omega), if_pos hph, isSign_ok h.1 h7 (by decide), Option.bind_some, if_neg (show ¬ xm c 4 i = 60 by omega), if_pos (show (0 : Int) = 0 from rfl), isSign_ok h.1 h7 (by decide), Option.bind_some, if_pos hk, if_neg (show ¬ (1 : Int) = 0 by decide)]
  unfold M_goesOn_b228
  obtain ⟨m1, a1, q1, f1⟩ := joins_X b1 l0 o0 o1 D0 D1 P0 h hd hl hp
  obtain ⟨g1, g2⟩ := hold_ok (op := 39) q1 P0 (by omega)
  rw [a1, Option.bind_some, isSign_ok q1.1 h7 (by decide), Option.bind_some, if_neg (show ¬ xm c 4 i = 60 by omega), if_pos (show (0 : Int) = 0 from rfl), isSign_ok q1.1 h7 (by decide), Option.bind_some, if_pos hk, if_neg (show ¬ (1 : Int) = 0 by decide)]
  unfold M_goesOn_b264
  rw [g1, Option.bind_some, wr_ok (by omega) (by omega)]
  refine wp_bm ((g2.F (a := 20) (j := D - 1) (x := 1) (by decide)).ahead hL hi) (fun r ⟨r1, r2⟩ => ?_)
  rw [pf_ok]
  refine wp_some ⟨⟨rfl, r1.o43, ?_⟩, (((((f1.X l0).putP (by omega)).put0 (by omega)).putF (by decide) (by decide) (by omega)).trans r2.X).put0 (by omega), ?_, fun a ha => ?_⟩
  · show upm r 0 43 0 24 P = _
    rw [ru1 (by decide), r2.G.cell (by decide), ru1 (by decide), ru1 (by decide), ru3 rfl rfl]
  · show upm r 0 43 0 20 (D - 1) = _
    rw [ru1 (by decide), r2.G.cell (by decide), ru3 rfl rfl]
  · show upm r 0 43 0 a = _
    rw [upm_ne (by omega), r2.G.cell (by omega), upm_ne (by omega), upm_ne (by omega), upm_ne (by omega), f1.1 a (by omega) (by omega) (by omega)]
theorem go_c61 {c : zX} {b lo may i o P D : Int} {M : List zC} {Eb : List Int} {m : zM} (hL : LX c) (b1 : b = 0 ∨ b = 1) (l0 : 0 ≤ lo) (o0 : 0 ≤ o) (o1 : o ≤ 7) (D0 : 1 ≤ D) (D1 : D ≤ 8) (P0 : 0 ≤ P) (P1 : P ≤ 40) (h : XMe c b lo may 1 i o M Eb P D m) (hd : HD 5 P D Eb m) (hl : lo + (M.length : Int) + (Eb.length : Int) ≤ 1600) (hp : P + (Eb.length : Int) ≤ 500) (hk : xm c 4 i = 61) (hT : isT (m 19 (D - 1))) (hph : m 20 (D - 1) = 0) : wp (M_goesOn m) (fun r => GO1 c b lo may i o P D 40 M Eb m r ∧ FX b lo (D - 1) P m r.2 ∧ r.2 20 (D - 1) = 1 ∧ ∀ a, a = 19 ∨ a = 21 ∨ a = 22 ∨ a = 23 → r.2 a = m a) := by
  have h7 : xm c 4 i ≠ 257 := by omega
  have hi := h.1.lt hL (by omega) h7
  rw [go_188 h h7 D0 D1 (fun _ => by omega), isT_1 hT, Option.bind_some]
  unfold M_goesOn_b188
  rw [if_neg (show ¬ (1 : Int) = 0 by decide), rd_ok (by omega) (by omega), if_pos hph, isSign_ok h.1 h7 (by decide), Option.bind_some, if_neg (show ¬ xm c 4 i = 60 by omega), if_pos (show (0 : Int) = 0 from rfl), isSign_ok h.1 h7 (by decide), Option.bind_some, if_neg (show ¬ xm c 4 i = 62 by omega), if_pos (show (0 : Int) = 0 from rfl), isSign_ok h.1 h7 (by decide), Option.bind_some, if_pos hk, if_neg (show ¬ (1 : Int) = 0 by decide)]
  unfold M_goesOn_b228
  obtain ⟨m1, a1, q1, f1⟩ := joins_X b1 l0 o0 o1 D0 D1 P0 h hd hl hp
  obtain ⟨g1, g2⟩ := hold_ok (op := 40) q1 P0 (by omega)
  rw [a1, Option.bind_some, isSign_ok q1.1 h7 (by decide), Option.bind_some, if_neg (show ¬ xm c 4 i = 60 by omega), if_pos (show (0 : Int) = 0 from rfl), isSign_ok q1.1 h7 (by decide), Option.bind_some, if_neg (show ¬ xm c 4 i = 62 by omega), if_pos (show (0 : Int) = 0 from rfl)]
  unfold M_goesOn_b264
  rw [g1, Option.bind_some, wr_ok (by omega) (by omega)]
  refine wp_bm ((g2.F (a := 20) (j := D - 1) (x := 1) (by decide)).ahead hL hi) (fun r ⟨r1, r2⟩ => ?_)
  rw [pf_ok]
  refine wp_some ⟨⟨rfl, r1.o43, ?_⟩, (((((f1.X l0).putP (by omega)).put0 (by omega)).putF (by decide) (by decide) (by omega)).trans r2.X).put0 (by omega), ?_, fun a ha => ?_⟩
  · show upm r 0 43 0 24 P = _
    rw [ru1 (by decide), r2.G.cell (by decide), ru1 (by decide), ru1 (by decide), ru3 rfl rfl]
  · show upm r 0 43 0 20 (D - 1) = _
    rw [ru1 (by decide), r2.G.cell (by decide), ru3 rfl rfl]
  · show upm r 0 43 0 a = _
    rw [upm_ne (by omega), r2.G.cell (by omega), upm_ne (by omega), upm_ne (by omega), upm_ne (by omega), f1.1 a (by omega) (by omega) (by omega)]
theorem go_and {c : zX} {b lo may i o P D : Int} {M : List zC} {Eb : List Int} {m : zM} (hL : LX c) (b1 : b = 0 ∨ b = 1) (l0 : 0 ≤ lo) (o0 : 0 ≤ o) (o1 : o ≤ 7) (D0 : 1 ≤ D) (D1 : D ≤ 8) (P0 : 0 ≤ P) (P1 : P ≤ 40) (h : XMe c b lo may 1 i o M Eb P D m) (hd : HD 2 P D Eb m) (hl : lo + (M.length : Int) + (Eb.length : Int) ≤ 1600) (hp : P + (Eb.length : Int) ≤ 500) (hk : xm c 4 i = 325) (hT : isT (m 19 (D - 1))) (hph : m 20 (D - 1) ≠ 0) : wp (M_goesOn m) (fun r => GO1 c b lo may i o P D 41 M Eb m r ∧ FX b lo (D - 1) P m r.2 ∧ r.2 20 (D - 1) = 0 ∧ r.2 21 (D - 1) = 1 ∧ ∀ a, a = 19 ∨ a = 22 ∨ a = 23 → r.2 a = m a) := by
  have h7 : xm c 4 i ≠ 257 := by omega
  have hi := h.1.lt hL (by omega) h7
  rw [go_188 h h7 D0 D1 (fun _ => by omega), isT_1 hT, Option.bind_some]
  unfold M_goesOn_b188
  rw [if_neg (show ¬ (1 : Int) = 0 by decide), rd_ok (by omega) (by omega), if_neg hph]
  unfold M_goesOn_b285
  rw [if_neg (show ¬ (1 : Int) = 0 by decide), iw_and h.1 h7, Option.bind_some, if_pos hk, if_neg (show ¬ (1 : Int) = 0 by decide)]
  unfold M_goesOn_b309
  rw [rd_ok (by omega) (by omega), if_neg hph]
  unfold M_goesOn_b327
  rw [if_neg (show ¬ 0 < m 0 8 by rw [h.1.2.2.2.1]; decide), iw_and h.1 h7, Option.bind_some, if_pos hk, if_neg (show ¬ (1 : Int) = 0 by decide)]
  unfold M_goesOn_b356
  obtain ⟨m1, a1, q1, f1⟩ := joins_X b1 l0 o0 o1 D0 D1 P0 h hd hl hp
  obtain ⟨g1, g2⟩ := hold_ok (op := 41) q1 P0 (by omega)
  rw [a1, Option.bind_some, if_neg (show ¬ (1 : Int) = 0 by decide)]
  unfold M_goesOn_b372
  rw [g1, Option.bind_some, wr_ok (by omega) (by omega), wr_ok (by omega) (by omega)]
  refine wp_bm (((g2.F (a := 20) (j := D - 1) (x := 0) (by decide)).F (a := 21) (j := D - 1) (x := 1) (by decide)).ahead hL hi) (fun r ⟨r1, r2⟩ => ?_)
  rw [pf_ok]
  refine wp_some ⟨⟨rfl, r1.o43, ?_⟩, ((((((f1.X l0).putP (by omega)).put0 (by omega)).putF (by decide) (by decide) (by omega)).putF (by decide) (by decide) (by omega)).trans r2.X).put0 (by omega), ?_, ?_, fun a ha => ?_⟩
  · show upm r 0 43 0 24 P = _
    rw [ru1 (by decide), r2.G.cell (by decide), ru1 (by decide), ru1 (by decide), ru1 (by decide), ru3 rfl rfl]
  · show upm r 0 43 0 20 (D - 1) = _
    rw [ru1 (by decide), r2.G.cell (by decide), ru1 (by decide), ru3 rfl rfl]
  · show upm r 0 43 0 21 (D - 1) = _
    rw [ru1 (by decide), r2.G.cell (by decide), ru3 rfl rfl]
  · show upm r 0 43 0 a = _
    rw [upm_ne (by omega), r2.G.cell (by omega), upm_ne (by omega), upm_ne (by omega), upm_ne (by omega), upm_ne (by omega), f1.1 a (by omega) (by omega) (by omega)]
theorem go_or {c : zX} {b lo may i o P D : Int} {M : List zC} {Eb : List Int} {m : zM} (hL : LX c) (b1 : b = 0 ∨ b = 1) (l0 : 0 ≤ lo) (o0 : 0 ≤ o) (o1 : o ≤ 7) (D0 : 1 ≤ D) (D1 : D ≤ 8) (P0 : 0 ≤ P) (P1 : P ≤ 40) (h : XMe c b lo may 1 i o M Eb P D m) (hd : HD 1 P D Eb m) (hl : lo + (M.length : Int) + (Eb.length : Int) ≤ 1600) (hp : P + (Eb.length : Int) ≤ 500) (hk : xm c 4 i = 324) (hT : isT (m 19 (D - 1))) (hph : m 20 (D - 1) ≠ 0) : wp (M_goesOn m) (fun r => GO1 c b lo may i o P D 42 M Eb m r ∧ FX b lo (D - 1) P m r.2 ∧ r.2 20 (D - 1) = 0 ∧ r.2 21 (D - 1) = 1 ∧ ∀ a, a = 19 ∨ a = 22 ∨ a = 23 → r.2 a = m a) := by
  have h7 : xm c 4 i ≠ 257 := by omega
  have hi := h.1.lt hL (by omega) h7
  rw [go_188 h h7 D0 D1 (fun _ => by omega), isT_1 hT, Option.bind_some]
  unfold M_goesOn_b188
  rw [if_neg (show ¬ (1 : Int) = 0 by decide), rd_ok (by omega) (by omega), if_neg hph]
  unfold M_goesOn_b285
  rw [if_neg (show ¬ (1 : Int) = 0 by decide), iw_and h.1 h7, Option.bind_some, if_neg (show ¬ xm c 4 i = 325 by omega), if_pos (show (0 : Int) = 0 from rfl), iw_or h.1 h7, Option.bind_some, if_pos hk, if_neg (show ¬ (1 : Int) = 0 by decide)]
  unfold M_goesOn_b309
  rw [rd_ok (by omega) (by omega), if_neg hph]
  unfold M_goesOn_b327
  rw [if_neg (show ¬ 0 < m 0 8 by rw [h.1.2.2.2.1]; decide), iw_and h.1 h7, Option.bind_some, if_neg (show ¬ xm c 4 i = 325 by omega), if_pos (show (0 : Int) = 0 from rfl)]
  unfold M_goesOn_b356
  obtain ⟨m1, a1, q1, f1⟩ := joins_X b1 l0 o0 o1 D0 D1 P0 h hd hl hp
  obtain ⟨g1, g2⟩ := hold_ok (op := 42) q1 P0 (by omega)
  rw [a1, Option.bind_some, if_pos (show (0 : Int) = 0 from rfl)]
  unfold M_goesOn_b372
  rw [g1, Option.bind_some, wr_ok (by omega) (by omega), wr_ok (by omega) (by omega)]
  refine wp_bm (((g2.F (a := 20) (j := D - 1) (x := 0) (by decide)).F (a := 21) (j := D - 1) (x := 1) (by decide)).ahead hL hi) (fun r ⟨r1, r2⟩ => ?_)
  rw [pf_ok]
  refine wp_some ⟨⟨rfl, r1.o43, ?_⟩, ((((((f1.X l0).putP (by omega)).put0 (by omega)).putF (by decide) (by decide) (by omega)).putF (by decide) (by decide) (by omega)).trans r2.X).put0 (by omega), ?_, ?_, fun a ha => ?_⟩
  · show upm r 0 43 0 24 P = _
    rw [ru1 (by decide), r2.G.cell (by decide), ru1 (by decide), ru1 (by decide), ru1 (by decide), ru3 rfl rfl]
  · show upm r 0 43 0 20 (D - 1) = _
    rw [ru1 (by decide), r2.G.cell (by decide), ru1 (by decide), ru3 rfl rfl]
  · show upm r 0 43 0 21 (D - 1) = _
    rw [ru1 (by decide), r2.G.cell (by decide), ru3 rfl rfl]
  · show upm r 0 43 0 a = _
    rw [upm_ne (by omega), r2.G.cell (by omega), upm_ne (by omega), upm_ne (by omega), upm_ne (by omega), upm_ne (by omega), f1.1 a (by omega) (by omega) (by omega)]
/-- nothing of its own follows: the frame's end is asked -/
theorem go_422 {c : zX} {b lo may opd i o P D : Int} {M : List zC} {m : zM} (h : XM c b lo may opd i o M P D m) (h7 : xm c 4 i ≠ 257) (D0 : 1 ≤ D) (D1 : D ≤ 8) (hs : m 20 (D - 1) < 2 → xm c 4 i ≠ 43 ∧ xm c 4 i ≠ 45 ∧ xm c 4 i ≠ 42 ∧ xm c 4 i ≠ 47 ∧ xm c 4 i ≠ 37) (ht : isT (m 19 (D - 1)) → m 20 (D - 1) ≠ 0 ∧ xm c 4 i ≠ 324 ∧ xm c 4 i ≠ 325) : M_goesOn m = M_goesOn_b422 (D - 1) (m 19 (D - 1)) m := by
  rw [go_188 h h7 D0 D1 hs]
  by_cases t : isT (m 19 (D - 1))
  · obtain ⟨k1, k2, k3⟩ := ht t
    rw [isT_1 t, Option.bind_some]
    unfold M_goesOn_b188
    rw [if_neg (show ¬ (1 : Int) = 0 by decide), rd_ok (by omega) (by omega), if_neg k1]
    unfold M_goesOn_b285
    rw [if_neg (show ¬ (1 : Int) = 0 by decide), iw_and h.1 h7, Option.bind_some, if_neg k3, if_pos (show (0 : Int) = 0 from rfl), iw_or h.1 h7, Option.bind_some, if_neg k2, if_pos (show (0 : Int) = 0 from rfl)]
    unfold M_goesOn_b400
    rw [if_neg (show ¬ (1 : Int) = 0 by decide), rd_ok (by omega) (by omega), if_neg k1]
  · rw [isT_0 t, Option.bind_some]
    unfold M_goesOn_b188
    rw [if_pos rfl]
    unfold M_goesOn_b285
    rw [if_pos rfl]
    unfold M_goesOn_b400
    rw [if_pos rfl]
theorem b422_F {m : zM} {x K : Int} (h : 0 < m 0 8) : M_goesOn_b422 x K m = some (0, m) := by
  have e470 : M_goesOn_b470 x K m = some (0, m) := by
    unfold M_goesOn_b470
    rw [if_pos h]
  have e546 : M_goesOn_b546 x K m = some (0, m) := by
    unfold M_goesOn_b546
    rw [if_pos h]
  have sg : ∀ ch : Int, ∃ v, M_isSign ch m = some v := fun ch => by
    unfold M_isSign
    split
    · split
      · exact ⟨_, rfl⟩
      · exact ⟨_, rfl⟩
    · exact ⟨_, rfl⟩
  have e452 : M_goesOn_b452 x K m = some (0, m) := by
    unfold M_goesOn_b452
    obtain ⟨v, e⟩ := sg 44
    rw [e, Option.bind_some]
    by_cases c : v = 0
    · rw [if_pos c, blame_1 h, Option.bind_some, e470]
    · rw [if_neg c, e470]
  have e531 : ∀ ch, M_goesOn_b531 x K ch m = some (0, m) := fun ch => by
    unfold M_goesOn_b531
    obtain ⟨v, e⟩ := sg ch
    rw [e, Option.bind_some]
    by_cases c : v = 0
    · rw [if_pos c, blame_1 h, Option.bind_some, e546]
    · rw [if_neg c, e546]
  unfold M_goesOn_b422
  by_cases c1 : K < 2
  · rw [if_pos c1, if_neg (by omega)]
  · rw [if_neg c1]
    by_cases c3 : K = 3
    · rw [if_pos c3, e452]
    · rw [if_neg c3]
      by_cases c6 : K = 6
      · rw [if_pos c6, e452]
      · rw [if_neg c6, e531, e531]
        split <;> rfl
/-- a test that has no sign of its own -/
theorem go_nocmp {c : zX} {b lo may opd i o P D : Int} {M : List zC} {m : zM} (h : XM c b lo may opd i o M P D m) (h7 : xm c 4 i ≠ 257) (D0 : 1 ≤ D) (D1 : D ≤ 8) (hs : xm c 4 i ≠ 43 ∧ xm c 4 i ≠ 45 ∧ xm c 4 i ≠ 42 ∧ xm c 4 i ≠ 47 ∧ xm c 4 i ≠ 37) (hc : xm c 4 i ≠ 60 ∧ xm c 4 i ≠ 62 ∧ xm c 4 i ≠ 61) (hT : isT (m 19 (D - 1))) (hph : m 20 (D - 1) = 0) : M_goesOn m = some (0, fmM m 1 (m 0 4)) := by
  have h8 := h.1.2.2.2.1
  have e309 : M_goesOn_b309 (D - 1) m = some (0, fmM m 1 (m 0 4)) := by
    unfold M_goesOn_b309
    rw [rd_ok (by omega) (by omega), if_pos hph, blame_0 h8, Option.bind_some]
    unfold M_goesOn_b327
    rw [if_pos (by rw [fmM_8]; decide)]
  have e400 : M_goesOn_b400 (D - 1) (m 19 (D - 1)) 1 m = some (0, fmM m 1 (m 0 4)) := by
    unfold M_goesOn_b400
    rw [if_neg (show ¬ (1 : Int) = 0 by decide), rd_ok (by omega) (by omega), if_pos hph, blame_0 h8, Option.bind_some, b422_F (by rw [fmM_8]; decide)]
  rw [go_188 h h7 D0 D1 (fun _ => hs), isT_1 hT, Option.bind_some]
  unfold M_goesOn_b188
  rw [if_neg (show ¬ (1 : Int) = 0 by decide), rd_ok (by omega) (by omega), if_pos hph, isSign_ok h.1 h7 (by decide), Option.bind_some, if_neg hc.1, if_pos (show (0 : Int) = 0 from rfl), isSign_ok h.1 h7 (by decide), Option.bind_some, if_neg hc.2.1, if_pos (show (0 : Int) = 0 from rfl), isSign_ok h.1 h7 (by decide), Option.bind_some, if_neg hc.2.2, if_pos (show (0 : Int) = 0 from rfl)]
  unfold M_goesOn_b285
  rw [if_neg (show ¬ (1 : Int) = 0 by decide), iw_and h.1 h7, Option.bind_some]
  by_cases k1 : xm c 4 i = 325
  · rw [if_pos k1, if_neg (show ¬ (1 : Int) = 0 by decide), e309]
  · rw [if_neg k1, if_pos (show (0 : Int) = 0 from rfl), iw_or h.1 h7, Option.bind_some]
    by_cases k2 : xm c 4 i = 324
    · rw [if_pos k2, if_neg (show ¬ (1 : Int) = 0 by decide), e309]
    · rw [if_neg k2, if_pos (show (0 : Int) = 0 from rfl), e400]
theorem b422_end {c : zX} {b lo may i o P D K : Int} {M : List zC} {Eb : List Int} {m : zM} (b1 : b = 0 ∨ b = 1) (l0 : 0 ≤ lo) (o0 : 0 ≤ o) (o1 : o ≤ 7) (D0 : 1 ≤ D) (D1 : D ≤ 8) (P0 : 0 ≤ P) (h : XMe c b lo may 1 i o M Eb P D m) (hd : HD 1 P D Eb m) (hl : lo + (M.length : Int) + (Eb.length : Int) ≤ 1600) (hp : P + (Eb.length : Int) ≤ 500) (hK : K < 2) : wp (M_goesOn_b422 (D - 1) K m) (fun r => r.1 = 0 ∧ XM c b lo may 1 i o (M ++ (Eb.reverse).map opE) P D r.2 ∧ FX b lo 1000 1000 m r.2) := by
  obtain ⟨m1, a1, q1, f1⟩ := joins_X b1 l0 o0 o1 D0 D1 P0 h hd hl hp
  unfold M_goesOn_b422
  rw [if_pos hK, if_pos h.1.2.2.2.1, a1, Option.bind_some]
  exact wp_some ⟨rfl, q1, f1.X l0⟩
/-- a comma between two parts of a bracket -/
theorem b422_comma {c : zX} {b lo may i o P D K K' : Int} {M : List zC} {Eb : List Int} {m : zM} (hL : LX c) (b1 : b = 0 ∨ b = 1) (l0 : 0 ≤ lo) (o0 : 0 ≤ o) (o1 : o ≤ 7) (D0 : 1 ≤ D) (D1 : D ≤ 8) (P0 : 0 ≤ P) (h : XMe c b lo may 1 i o M Eb P D m) (hd : HD 1 P D Eb m) (hl : lo + (M.length : Int) + (Eb.length : Int) ≤ 1600) (hp : P + (Eb.length : Int) ≤ 500) (hk : xm c 4 i = 44) (hK : (K = 3 ∧ K' = 4) ∨ (K = 6 ∧ K' = 3)) : wp (M_goesOn_b422 (D - 1) K m) (fun r => r.1 = 1 ∧ XM c b lo may 0 (i + 1) o (M ++ (Eb.reverse).map opE) P D r.2 ∧ FX b lo (D - 1) 1000 m r.2 ∧ r.2 19 (D - 1) = K' ∧ r.2 20 (D - 1) = 0 ∧ ∀ a, a = 21 ∨ a = 22 ∨ a = 23 → r.2 a = m a) := by
  have h7 : xm c 4 i ≠ 257 := by omega
  have hi := h.1.lt hL (by omega) h7
  obtain ⟨m1, a1, q1, f1⟩ := joins_X b1 l0 o0 o1 D0 D1 P0 h hd hl hp
  have e499 : wp (M_goesOn_b499 (D - 1) 19 20 (D - 1) K' m1) (fun r => r.1 = 1 ∧ XM c b lo may 0 (i + 1) o (M ++ (Eb.reverse).map opE) P D r.2 ∧ FX b lo (D - 1) 1000 m r.2 ∧ r.2 19 (D - 1) = K' ∧ r.2 20 (D - 1) = 0 ∧ ∀ a, a = 21 ∨ a = 22 ∨ a = 23 → r.2 a = m a) := by
    unfold M_goesOn_b499
    rw [wr_ok (by omega) (by omega), wr_ok (by omega) (by omega)]
    refine wp_bm (((q1.F (a := 19) (j := D - 1) (x := K') (by decide)).F (a := 20) (j := D - 1) (x := 0) (by decide)).ahead hL hi) (fun r ⟨r1, r2⟩ => ?_)
    rw [pf_ok]
    refine wp_some ⟨rfl, r1.o43, ((((f1.X l0).putF (by decide) (by decide) (by omega)).putF (by decide) (by decide) (by omega)).trans r2.X).put0 (by omega), ?_, ?_, fun a ha => ?_⟩
    · show upm r 0 43 0 19 (D - 1) = _
      rw [ru1 (by decide), r2.G.cell (by decide), ru1 (by decide), ru3 rfl rfl]
    · show upm r 0 43 0 20 (D - 1) = _
      rw [ru1 (by decide), r2.G.cell (by decide), ru3 rfl rfl]
    · show upm r 0 43 0 a = _
      rw [upm_ne (by omega), r2.G.cell (by omega), upm_ne (by omega), upm_ne (by omega), f1.1 a (by omega) (by omega) (by omega)]
  have e452 : wp (M_goesOn_b452 (D - 1) K m) (fun r => r.1 = 1 ∧ XM c b lo may 0 (i + 1) o (M ++ (Eb.reverse).map opE) P D r.2 ∧ FX b lo (D - 1) 1000 m r.2 ∧ r.2 19 (D - 1) = K' ∧ r.2 20 (D - 1) = 0 ∧ ∀ a, a = 21 ∨ a = 22 ∨ a = 23 → r.2 a = m a) := by
    unfold M_goesOn_b452
    rw [isSign_ok h.1 h7 (by decide), Option.bind_some, if_pos hk, if_neg (show ¬ (1 : Int) = 0 by decide)]
    unfold M_goesOn_b470
    rw [if_neg (show ¬ 0 < m 0 8 by rw [h.1.2.2.2.1]; decide), a1, Option.bind_some]
    rcases hK with ⟨k1, k2⟩ | ⟨k1, k2⟩
    · rw [if_pos k1, ← k2]
      exact e499
    · rw [if_neg (by omega), ← k2]
      exact e499
  unfold M_goesOn_b422
  rcases hK with ⟨k1, k2⟩ | ⟨k1, k2⟩
  · rw [if_neg (by omega), if_pos k1]
    exact e452
  · rw [if_neg (by omega), if_neg (by omega), if_pos k1]
    exact e452
theorem b422_nocomma {c : zX} {i x K : Int} {m : zM} (h : PM c i m) (h7 : xm c 4 i ≠ 257) (hk : xm c 4 i ≠ 44) (hK : K = 3 ∨ K = 6) : M_goesOn_b422 x K m = some (0, fmM m 1 (m 0 4)) := by
  have e452 : M_goesOn_b452 x K m = some (0, fmM m 1 (m 0 4)) := by
    unfold M_goesOn_b452
    rw [isSign_ok h h7 (by decide), Option.bind_some, if_neg hk, if_pos (show (0 : Int) = 0 from rfl), blame_0 h.2.2.2.1, Option.bind_some]
    unfold M_goesOn_b470
    rw [if_pos (by rw [fmM_8]; decide)]
  unfold M_goesOn_b422
  rcases hK with k | k
  · rw [if_neg (by omega), if_pos k, e452]
  · rw [if_neg (by omega), if_neg (by omega), if_pos k, e452]
/-- a bracket is closed: 2 a sum's own, 4 of two or three sums, 5 a test's -/
theorem b422_close {c : zX} {b lo may i o P D K ch x : Int} {M : List zC} {Eb : List Int} {m : zM} (hL : LX c) (b1 : b = 0 ∨ b = 1) (l0 : 0 ≤ lo) (o0 : 1 ≤ o) (o1 : o ≤ 7) (D0 : 2 ≤ D) (D1 : D ≤ 8) (P0 : 0 ≤ P) (h : XMe c b lo may 1 i o M Eb P D m) (hd : HD 1 P D Eb m) (hl : lo + (M.length : Int) + (Eb.length : Int) + 1 ≤ 1600) (hp : P + (Eb.length : Int) ≤ 500) (hk : xm c 4 i = ch) (hK : (K = 2 ∧ ch = 41) ∨ (K = 4 ∧ ch = 41) ∨ (K = 5 ∧ ch = 93)) : wp (M_goesOn_b422 (D - 1) K m) (fun r => r.1 = 1 ∧ XM c b lo may 1 (i + 1) (o - 1) (M ++ (Eb.reverse).map opE ++ (if K = 4 then [(x, m 22 (D - 1), 0)] else [])) P (D - 1) r.2 ∧ FX b lo (D - 2) 1000 m r.2 ∧ r.2 20 (D - 2) = (if K = 5 then 2 else m 20 (D - 2)) ∧ ∀ a, a = 19 ∨ a = 21 ∨ a = 22 ∨ a = 23 → r.2 a (D - 2) = m a (D - 2)) := by
  have h7 : xm c 4 i ≠ 257 := by omega
  have hi := h.1.lt hL (by omega) h7
  obtain ⟨m1, a1, q1, f1⟩ := joins_X b1 l0 (by omega) o1 (by omega) D1 P0 h hd (by omega) hp
  have hlen : (M ++ (Eb.reverse).map opE).length = M.length + Eb.length := by rw [List.length_append, List.length_map, List.length_reverse]
  generalize M ++ (Eb.reverse).map opE = M' at *
  have q2 : XM c b lo may 1 i (o - 1) M' P (D - 1) (upm (upm m1 0 39 (D - 1)) 0 40 (o - 1)) := by
    obtain ⟨p1, ⟨p2, p3, p4, p5, p6, p7⟩, p8⟩ := q1
    have e0 : ∀ j, j ≠ 39 → j ≠ 40 → upm (upm m1 0 39 (D - 1)) 0 40 (o - 1) 0 j = m1 0 j := fun j h1 h2 => by rw [ru2 h2, ru2 h1]
    exact ⟨p1.keep (by rw [upm_ne (by decide), upm_ne (by decide)]) (fun j hj => e0 j (by omega) (by omega)), ⟨by rw [e0 32 (by decide) (by decide)]; exact p2, by rw [e0 33 (by decide) (by decide)]; exact p3, by rw [ru2 (by decide), ru3 rfl rfl], ru3 rfl rfl, by rw [e0 42 (by decide) (by decide)]; exact p6, by rw [e0 43 (by decide) (by decide)]; exact p7⟩, p8.keep (e0 31 (by decide) (by decide)) (by rw [upm_ne (by decide), upm_ne (by decide)]) (by rw [upm_ne (by decide), upm_ne (by decide)])⟩
  have F2 : FX b lo 1000 1000 m (upm (upm m1 0 39 (D - 1)) 0 40 (o - 1)) := ((f1.X l0).put0 (by omega)).put0 (by omega)
  have c2 : ∀ a, a = 19 ∨ a = 20 ∨ a = 21 ∨ a = 22 ∨ a = 23 → upm (upm m1 0 39 (D - 1)) 0 40 (o - 1) a = m a := fun a ha => by rw [upm_ne (by omega), upm_ne (by omega), f1.1 a (by omega) (by omega) (by omega)]
  have h39 := q1.2.1.2.2.1
  have h40 := q1.2.1.2.2.2.1
  have e596 : ∀ (u : zM) (L : List zC), XM c b lo may 1 i (o - 1) L P (D - 1) u → FX b lo 1000 1000 m u → (∀ a, a = 19 ∨ a = 20 ∨ a = 21 ∨ a = 22 ∨ a = 23 → u a = m a) → wp (M_goesOn_b596 K u) (fun r => r.1 = 1 ∧ XM c b lo may 1 (i + 1) (o - 1) L P (D - 1) r.2 ∧ FX b lo (D - 2) 1000 m r.2 ∧ r.2 20 (D - 2) = (if K = 5 then 2 else m 20 (D - 2)) ∧ ∀ a, a = 19 ∨ a = 21 ∨ a = 22 ∨ a = 23 → r.2 a (D - 2) = m a (D - 2)) := by
    intro u L qu Fu cu
    unfold M_goesOn_b596
    by_cases k5 : K = 5
    · rw [if_pos k5, qu.2.1.2.2.1, wI_ok (x := D - 1 - 1) (by omega) (by omega), show D - 1 - 1 = D - 2 from by omega, wr_ok (by omega) (by omega)]
      refine wp_bm ((qu.F (a := 20) (j := D - 2) (x := 2) (by decide)).ahead hL hi) (fun r ⟨r1, r2⟩ => wp_some ⟨rfl, r1, ((Fu.mono (by omega) (Int.le_refl _)).putF (by decide) (by decide) (by omega)).trans r2.X, ?_, fun a ha => ?_⟩)
      · show r 20 (D - 2) = _
        rw [if_pos k5, r2.G.cell (by decide), ru3 rfl rfl]
      · show r a (D - 2) = _
        rw [r2.G.cell (by omega), ru1 (by omega), cu a (by omega)]
    · rw [if_neg k5]
      refine wp_bm (qu.ahead hL hi) (fun r ⟨r1, r2⟩ => wp_some ⟨rfl, r1, (Fu.mono (by omega) (Int.le_refl _)).trans r2.X, ?_, fun a ha => ?_⟩)
      · show r 20 (D - 2) = _
        rw [if_neg k5, r2.G.cell (by decide), cu 20 (by omega)]
      · show r a (D - 2) = _
        rw [r2.G.cell (by omega), cu a (by omega)]
  have e546 : wp (M_goesOn_b546 (D - 1) K m) (fun r => r.1 = 1 ∧ XM c b lo may 1 (i + 1) (o - 1) (M' ++ (if K = 4 then [(x, m 22 (D - 1), 0)] else [])) P (D - 1) r.2 ∧ FX b lo (D - 2) 1000 m r.2 ∧ r.2 20 (D - 2) = (if K = 5 then 2 else m 20 (D - 2)) ∧ ∀ a, a = 19 ∨ a = 21 ∨ a = 22 ∨ a = 23 → r.2 a (D - 2) = m a (D - 2)) := by
    unfold M_goesOn_b546
    rw [if_neg (show ¬ 0 < m 0 8 by rw [h.1.2.2.2.1]; decide), a1, Option.bind_some, h39, wI_ok (x := D - 1) (by omega) (by omega), pf_ok, ru2 (by decide), h40, wI_ok (x := o - 1) (by omega) (by omega), pf_ok]
    by_cases k4 : K = 4
    · rw [if_pos k4, if_pos k4, rd_ok (by omega) (by omega), c2 22 (by omega)]
      obtain ⟨m3, b1', b2, b3⟩ := add_M (s := m 22 (D - 1)) (v := 0) (x := x) q2.2.2 q2.2.1.1 b1 l0 (by omega)
      rw [b1', Option.bind_some]
      have f3 : FJ b lo (upm (upm m1 0 39 (D - 1)) 0 40 (o - 1)) m3 := by
        rw [b3]
        exact FJ.refl.add (by omega) (by omega)
      have ea : ∀ j, j ≠ 31 → m3 0 j = upm (upm m1 0 39 (D - 1)) 0 40 (o - 1) 0 j := fun j hj => by rw [b3, ru2 hj, ru1 (by decide), ru1 (by decide)]
      refine e596 m3 _ ⟨q2.1.keep (f3.1 1 (by decide) (by decide) (by decide)) (fun j hj => ea j (by omega)), ?_, b2⟩ (F2.trans (f3.X l0)) (fun a ha => by rw [f3.1 a (by omega) (by omega) (by omega)]; exact c2 a ha)
      rw [ea 32 (by decide), ea 33 (by decide), ea 39 (by decide), ea 40 (by decide), ea 42 (by decide), ea 43 (by decide)]
      exact q2.2.1
    · rw [if_neg k4, if_neg k4, List.append_nil]
      exact e596 _ _ q2 F2 c2
  have e531 : wp (M_goesOn_b531 (D - 1) K ch m) (fun r => r.1 = 1 ∧ XM c b lo may 1 (i + 1) (o - 1) (M' ++ (if K = 4 then [(x, m 22 (D - 1), 0)] else [])) P (D - 1) r.2 ∧ FX b lo (D - 2) 1000 m r.2 ∧ r.2 20 (D - 2) = (if K = 5 then 2 else m 20 (D - 2)) ∧ ∀ a, a = 19 ∨ a = 21 ∨ a = 22 ∨ a = 23 → r.2 a (D - 2) = m a (D - 2)) := by
    unfold M_goesOn_b531
    rw [isSign_ok h.1 h7 (by omega), Option.bind_some, if_pos hk, if_neg (show ¬ (1 : Int) = 0 by decide)]
    exact e546
  unfold M_goesOn_b422
  rcases hK with ⟨k1, k2⟩ | ⟨k1, k2⟩ | ⟨k1, k2⟩
  · rw [if_neg (by omega), if_neg (by omega), if_neg (by omega), if_neg (by omega), ← k2]
    exact e531
  · rw [if_neg (by omega), if_neg (by omega), if_neg (by omega), if_neg (by omega), ← k2]
    exact e531
  · rw [if_neg (by omega), if_neg (by omega), if_neg (by omega), if_pos k1, ← k2]
    exact e531
theorem b422_noclose {c : zX} {i x K ch : Int} {m : zM} (h : PM c i m) (h7 : xm c 4 i ≠ 257) (hk : xm c 4 i ≠ ch) (hK : (K = 2 ∧ ch = 41) ∨ (K = 4 ∧ ch = 41) ∨ (K = 5 ∧ ch = 93)) : M_goesOn_b422 x K m = some (0, fmM m 1 (m 0 4)) := by
  have e531 : M_goesOn_b531 x K ch m = some (0, fmM m 1 (m 0 4)) := by
    unfold M_goesOn_b531
    rw [isSign_ok h h7 (by omega), Option.bind_some, if_neg hk, if_pos (show (0 : Int) = 0 from rfl), blame_0 h.2.2.2.1, Option.bind_some]
    unfold M_goesOn_b546
    rw [if_pos (by rw [fmM_8]; decide)]
  unfold M_goesOn_b422
  rcases hK with ⟨k1, k2⟩ | ⟨k1, k2⟩ | ⟨k1, k2⟩
  · rw [if_neg (by omega), if_neg (by omega), if_neg (by omega), if_neg (by omega), ← k2]
    exact e531
  · rw [if_neg (by omega), if_neg (by omega), if_neg (by omega), if_neg (by omega), ← k2]
    exact e531
  · rw [if_neg (by omega), if_neg (by omega), if_neg (by omega), if_pos k1, ← k2]
    exact e531
