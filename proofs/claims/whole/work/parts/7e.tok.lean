/-! the parser's tokens: the class's row, the model's sign -/
def OWNW : List Int := [422607680372, 512735536499, 29807, 24948, 499851162725, 444351214452, 427071202675, 439787549299, 465625113971, 7168377, 129138533167731, 422776563059, 461262647411, 6710629, 1918986606, 495891084403, 7561591, 1752135026, 465726040947, 495756602476, 1952541803, 119200029437543, 1718773093, 26982, 28530, 6385252, 7237492, 6384748, 7170414, 7168376]
def OWNL : List (List Int) := [[2, 5, 1, 19, 20], [23, 1, 11, 5, 19], [20, 15], [1, 20], [20, 1, 19, 20, 5], [7, 21, 5, 19, 20], [3, 15, 13, 5, 19], [6, 5, 1, 18, 19], [12, 9, 11, 5, 19], [13, 1, 25], [21, 19, 8, 5, 18, 19], [2, 15, 18, 5, 19], [11, 5, 5, 16, 19], [6, 5, 5], [18, 1, 9, 14], [19, 21, 9, 20, 19], [19, 1, 23], [8, 15, 21, 18], [12, 15, 15, 11, 19], [19, 13, 5, 12, 12], [20, 1, 12, 11], [12, 9, 11, 9, 14, 7], [6, 18, 5, 5], [9, 6], [15, 18], [1, 14, 4], [14, 15, 20], [1, 12, 12], [13, 9, 14], [13, 1, 24]]
theorem own_all : ∀ k : Nat, k < 30 → (OWNL.getD k []).length ≤ 6 ∧ 1 ≤ (OWNL.getD k []).length ∧ (∀ c ∈ OWNL.getD k [], 1 ≤ c ∧ c ≤ 26) ∧ OWNW.getD k 0 = nmw (OWNL.getD k []) ∧ OWNC.getD k 0 = nmc (OWNL.getD k []) 6 := by decide +kernel
theorem own_R {k : Nat} (h : k < 30) : nmR (OWNC.getD k 0) (OWNW.getD k 0) := by
  obtain ⟨a, b, c, d, e⟩ := own_all k h
  exact ⟨OWNL.getD k [], b, a, c, d, e⟩
theorem own_ne : ∀ k : Nat, k < 30 → ∀ j : Nat, j < 30 → OWNC.getD k 0 = OWNC.getD j 0 → k = j := by decide +kernel
theorem isOwn_1 : ∀ k : Nat, k < 30 → M_isOwn (OWNW.getD k 0) = some 1 := by decide +kernel
theorem isOwn_0 {w : Int} (h : ∀ k : Nat, k < 30 → OWNW.getD k 0 ≠ w) : M_isOwn w = some 0 := by
  have h' : ∀ k : Nat, k < 30 → ¬ w = OWNW.getD k 0 := fun k hk e => h k hk e.symm
  unfold M_isOwn
  rw [if_neg (show ¬ w = 422607680372 from h' 0 (by decide)), if_neg (show ¬ w = 512735536499 from h' 1 (by decide)), if_neg (show ¬ w = 29807 from h' 2 (by decide)), if_neg (show ¬ w = 24948 from h' 3 (by decide)), if_neg (show ¬ w = 499851162725 from h' 4 (by decide)), if_neg (show ¬ w = 444351214452 from h' 5 (by decide)), if_neg (show ¬ w = 427071202675 from h' 6 (by decide)), if_neg (show ¬ w = 439787549299 from h' 7 (by decide)), if_neg (show ¬ w = 465625113971 from h' 8 (by decide)), if_neg (show ¬ w = 7168377 from h' 9 (by decide)), if_neg (show ¬ w = 129138533167731 from h' 10 (by decide)), if_neg (show ¬ w = 422776563059 from h' 11 (by decide)), if_neg (show ¬ w = 461262647411 from h' 12 (by decide)), if_neg (show ¬ w = 6710629 from h' 13 (by decide)), if_neg (show ¬ w = 1918986606 from h' 14 (by decide)), if_neg (show ¬ w = 495891084403 from h' 15 (by decide)), if_neg (show ¬ w = 7561591 from h' 16 (by decide)), if_neg (show ¬ w = 1752135026 from h' 17 (by decide)), if_neg (show ¬ w = 465726040947 from h' 18 (by decide)), if_neg (show ¬ w = 495756602476 from h' 19 (by decide)), if_neg (show ¬ w = 1952541803 from h' 20 (by decide)), if_neg (show ¬ w = 119200029437543 from h' 21 (by decide)), if_neg (show ¬ w = 1718773093 from h' 22 (by decide)), if_neg (show ¬ w = 26982 from h' 23 (by decide)), if_neg (show ¬ w = 28530 from h' 24 (by decide)), if_neg (show ¬ w = 6385252 from h' 25 (by decide)), if_neg (show ¬ w = 7237492 from h' 26 (by decide)), if_neg (show ¬ w = 6384748 from h' 27 (by decide)), if_neg (show ¬ w = 7170414 from h' 28 (by decide)), if_neg (show ¬ w = 7168376 from h' 29 (by decide))]
/-- what stands fixed: the class's memory behind the split, the text, its length, where tokens begin, the last one -/
abbrev zX : Type := zM × (Int → Int) × Int × (Int → Int) × Int
abbrev xm (c : zX) : zM := c.1
abbrev xt (c : zX) : Int → Int := c.2.1
abbrev xN (c : zX) : Int := c.2.2.1
abbrev xp (c : zX) : Int → Int := c.2.2.2.1
abbrev xl (c : zX) : Int := c.2.2.2.2
def LX (c : zX) : Prop := LEX (xm c) (xt c) (xN c) (xp c) (xl c) ∧ 0 ≤ xN c ∧ xN c ≤ 1600
def PC (c : zX) (i : Int) (m : zM) : Prop := (m 2 = xm c 2 ∧ m 4 = xm c 4 ∧ m 5 = xm c 5 ∧ m 6 = xm c 6 ∧ m 1 1 = 0 ∧ m 1 2 = -1) ∧ m 1 7 = i
def PM (c : zX) (i : Int) (m : zM) : Prop := (0 ≤ i ∧ i ≤ xl c) ∧ TR (xm c) i m ∧ (i < xl c → m 0 5 = xp c (i + 1)) ∧ m 0 8 = 0 ∧ m 0 2 = xN c ∧ m 1 = xt c ∧ m 0 9 = -1
def FE (mC mM : zM) : Prop := mC 1 1 = mM 0 8 ∧ mC 1 2 = mM 0 9 ∧ 0 < mM 0 8
/-- the class's frame: of the parser all but fault, at, read stay -/
def frK (m m' : zM) : Prop := eqO [1] m m' ∧ m' 1 3 = m 1 3 ∧ m' 1 4 = m 1 4 ∧ m' 1 5 = m 1 5 ∧ m' 1 6 = m 1 6
theorem frK.refl {m : zM} : frK m m := ⟨eqO.refl, rfl, rfl, rfl, rfl⟩
theorem frK.trans {m m' m2 : zM} (h : frK m m') (h2 : frK m' m2) : frK m m2 := ⟨h.1.trans h2.1, by rw [h2.2.1, h.2.1], by rw [h2.2.2.1, h.2.2.1], by rw [h2.2.2.2.1, h.2.2.2.1], by rw [h2.2.2.2.2, h.2.2.2.2]⟩
theorem frK.put {m m' : zM} {i v : Int} (h : frK m m') (hi : i = 1 ∨ i = 2 ∨ i = 7 ∨ i = 8) : frK m (upm m' 1 i v) := ⟨h.1.put (by simp), by rw [ru2 (by omega)]; exact h.2.1, by rw [ru2 (by omega)]; exact h.2.2.1, by rw [ru2 (by omega)]; exact h.2.2.2.1, by rw [ru2 (by omega)]; exact h.2.2.2.2⟩
/-- the model's frame -/
def frG (m m' : zM) : Prop := eqO [0] m m' ∧ ∀ j, j ≠ 3 → j ≠ 4 → j ≠ 5 → j ≠ 6 → j ≠ 7 → j ≠ 8 → j ≠ 9 → j ≠ 12 → m' 0 j = m 0 j
theorem frG.refl {m : zM} : frG m m := ⟨eqO.refl, fun _ _ _ _ _ _ _ _ _ => rfl⟩
theorem frG.trans {m m' m2 : zM} (h : frG m m') (h2 : frG m' m2) : frG m m2 := ⟨h.1.trans h2.1, fun j a b c d e f g i => by rw [h2.2 j a b c d e f g i, h.2 j a b c d e f g i]⟩
theorem frH.G {m m' : zM} (h : frH m m') : frG m m' := ⟨h.1, fun j a b c d e _ _ f => h.2 j a b c d e f⟩
theorem frG.cell {m m' : zM} (h : frG m m') {a : Nat} (ha : a ≠ 0) : m' a = m a := h.1 a (by simp; exact ha)
theorem frK.cell {m m' : zM} (h : frK m m') {a : Nat} (ha : a ≠ 1) : m' a = m a := h.1 a (by simp; exact ha)
def fmM (m : zM) (k p : Int) : zM := upm (upm m 0 8 k) 0 9 p
def fmC (m : zM) (k p : Int) : zM := upm (upm m 1 1 k) 1 2 p
theorem fmM_G {m : zM} {k p : Int} : frG m (fmM m k p) := ⟨(eqO.refl.put (by simp)).put (by simp), fun j _ _ _ _ _ h8 h9 _ => by unfold fmM; rw [ru2 h9, ru2 h8]⟩
theorem fmC_K {m : zM} {k p : Int} : frK m (fmC m k p) := (frK.refl.put (by simp)).put (by simp)
theorem fmM_8 {m : zM} {k p : Int} : fmM m k p 0 8 = k := by unfold fmM; rw [ru2 (by decide), ru3 rfl rfl]
theorem fmM_9 {m : zM} {k p : Int} : fmM m k p 0 9 = p := ru3 rfl rfl
theorem FE_fm {mC mM : zM} {k p : Int} (h : 0 < k) : FE (fmC mC k p) (fmM mM k p) := ⟨by rw [fmM_8]; unfold fmC; rw [ru2 (by decide), ru3 rfl rfl], by rw [fmM_9]; exact ru3 rfl rfl, by rw [fmM_8]; exact h⟩
theorem PC.keep {c : zX} {i : Int} {m m' : zM} (h : PC c i m) (k : frK m m') {j : Int} (h7 : m' 1 7 = j) (e1 : m' 1 1 = m 1 1 := by first | rfl | exact ru2 (by decide)) (e2 : m' 1 2 = m 1 2 := by first | rfl | exact ru2 (by decide)) : PC c j m' := ⟨by rw [k.cell (by decide), k.cell (by decide), k.cell (by decide), k.cell (by decide), e1, e2]; exact h.1, h7⟩
theorem PM.i0 {c : zX} {i : Int} {m : zM} (h : PM c i m) (hL : LX c) : 0 ≤ i ∧ i < 1601 ∧ i ≤ xl c := ⟨h.1.1, by have := h.1.2; have := hL.1.2.1.2.1; omega, h.1.2⟩
theorem PM.lt {c : zX} {i : Int} {m : zM} (h : PM c i m) (hL : LX c) (h6 : xm c 4 i ≠ 256) (h7 : xm c 4 i ≠ 257) : i < xl c := by
  have a := h.1.2
  by_cases e : i = xl c
  · rcases hL.1.2.1.2.2 with w | w
    · rw [← e] at w; exact absurd w h6
    · rw [← e] at w; exact absurd w h7
  · omega
theorem kind_ok {c : zX} {i : Int} {mC mM : zM} (hL : LX c) (h : PC c i mC) (hM : PM c i mM) : Pa_kind mC = some (xm c 4 i) := by
  have b := hM.i0 hL
  unfold Pa_kind
  rw [h.2, rd_ok b.1 b.2.1, h.1.2.1]
/-- where a fault of kind k is told at token i -/
def plc (c : zX) (k i : Int) : Int := if k = 1 ∧ xm c 4 i = 257 then xm c 2 6 else xm c 5 i
theorem fail_ok {c : zX} {i k : Int} {mC mM : zM} (hL : LX c) (h : PC c i mC) (hM : PM c i mM) : Pa_fail k mC = some (0, fmC mC k (plc c k i)) := by
  have b := hM.i0 hL
  unfold Pa_fail plc fmC
  rw [pf_ok, ru2 (by decide), h.2]
  have e4 : upm mC 1 1 k 4 = xm c 4 := by rw [upm_ne (by decide), h.1.2.1]
  have e5 : upm mC 1 1 k 5 = xm c 5 := by rw [upm_ne (by decide), h.1.2.2.1]
  have e2 : upm mC 1 1 k 2 = xm c 2 := by rw [upm_ne (by decide), h.1.1]
  by_cases c1 : k = 1
  · rw [if_pos c1, rd_ok b.1 b.2.1, e4]
    by_cases c2 : xm c 4 i = 257
    · rw [if_pos c2, pf_ok, if_pos ⟨c1, c2⟩, e2]
    · rw [if_neg c2, rd_ok b.1 b.2.1, pf_ok, if_neg (fun w => c2 w.2), e5]
  · rw [if_neg c1, rd_ok b.1 b.2.1, pf_ok, if_neg (fun w => c1 w.1), e5]
theorem blame_0 {m : zM} {k p : Int} (h : m 0 8 = 0) : M_blame k p m = some (fmM m k p) := by
  unfold M_blame fmM
  rw [if_neg (by omega), pf_ok, pf_ok]
theorem blame_1 {m : zM} {k p : Int} (h : 0 < m 0 8) : M_blame k p m = some m := by
  unfold M_blame
  rw [if_pos h]
theorem lex_1 {m : zM} (h : 0 < m 0 8) : M_lex m = some m := by
  unfold M_lex
  by_cases c : m 0 12 = -1
  · rw [if_pos c]
  · rw [if_neg c, blame_1 h, Option.bind_some]
theorem PM.at {c : zX} {i : Int} {m : zM} (h : PM c i m) : m 0 4 = xm c 5 i := h.2.1.1
theorem lex_ok {c : zX} {i : Int} {m : zM} (h : PM c i m) (hk : xm c 4 i ≠ 257) : M_lex m = some m := by
  have e : m 0 12 = -1 := by
    rcases h.2.1.2 with ⟨_, _, w, _⟩ | ⟨w, _⟩ | ⟨_, _, _, _, w⟩ | ⟨_, _, _, _, _, w⟩ | ⟨_, w, _⟩
    · exact w
    · exact absurd w hk
    · exact w
    · exact w
    · exact w
  unfold M_lex
  rw [if_pos e]
theorem knd_b {x kd : Int} (h : knd x kd) : 258 ≤ kd ∧ kd < 330 := by
  rcases h with ⟨k, k1, k2, _⟩ | ⟨k, _⟩ <;> omega
theorem lex_bad {c : zX} {i : Int} {m : zM} (h : PM c i m) (hk : xm c 4 i = 257) : M_lex m = some (fmM m 1 (plc c 1 i)) := by
  have e : m 0 12 = xm c 2 6 ∧ 0 ≤ xm c 2 6 := by
    rcases h.2.1.2 with ⟨w, _⟩ | ⟨_, w, w2, _⟩ | ⟨_, w, _⟩ | ⟨w, _⟩ | ⟨_, _, _, w⟩
    · omega
    · exact ⟨w, w2⟩
    · omega
    · omega
    · have := knd_b w
      rcases w with ⟨k, _, w, _⟩ | ⟨w, _⟩ <;> omega
  unfold M_lex plc
  rw [if_neg (by omega), blame_0 h.2.2.2.1, Option.bind_some, e.1, if_pos ⟨rfl, hk⟩]
theorem PM.step {c : zX} {i : Int} {m : zM} (hL : LX c) (h : PM c i m) (hi : i < xl c) : wp (M_ahead m) (fun b => PM c (i + 1) b ∧ frH m b) := by
  have a := h.1.1
  refine wp_mono (hL.1.2.2.2.2 (i + 1) (by omega) (by omega) m h.2.2.2.2.2.1 h.2.2.2.2.1 (h.2.2.1 hi)) (fun b ⟨k1, k2, k3⟩ => ⟨⟨⟨by omega, by omega⟩, k2, k3, ?_, ?_, ?_, ?_⟩, k1⟩)
  · rw [k1.2 8 (by decide) (by decide) (by decide) (by decide) (by decide) (by decide)]; exact h.2.2.2.1
  · rw [k1.2 2 (by decide) (by decide) (by decide) (by decide) (by decide) (by decide)]; exact h.2.2.2.2.1
  · rw [k1.1 1 (by simp)]; exact h.2.2.2.2.2.1
  · rw [k1.2 9 (by decide) (by decide) (by decide) (by decide) (by decide) (by decide)]; exact h.2.2.2.2.2.2
theorem PM.keep {c : zX} {i : Int} {m m' : zM} (h : PM c i m) (h1 : m' 1 = m 1) (h0 : ∀ j, j = 2 ∨ j = 3 ∨ j = 4 ∨ j = 5 ∨ j = 6 ∨ j = 7 ∨ j = 8 ∨ j = 9 ∨ j = 12 → m' 0 j = m 0 j) : PM c i m' := by
  obtain ⟨a, b, d, e, f, g⟩ := h
  refine ⟨a, ?_, fun w => by rw [h0 5 (by simp)]; exact d w, by rw [h0 8 (by simp)]; exact e, by rw [h0 2 (by simp)]; exact f, by rw [h1]; exact g.1, by rw [h0 9 (by simp)]; exact g.2⟩
  unfold TR TK at b ⊢
  rw [h0 4 (by simp), h0 3 (by simp), h0 12 (by simp), h0 5 (by simp), h0 6 (by simp), h0 7 (by simp)]
  exact b
theorem isWord_ok {c : zX} {i : Int} {m : zM} (h : PM c i m) (hk : xm c 4 i ≠ 257) {k : Nat} (k1 : k < 30) : M_isWord (OWNW.getD k 0) m = some (if xm c 4 i = 300 + (k : Int) then 1 else 0) := by
  unfold M_isWord
  rcases h.2.1.2 with ⟨w, w3, _⟩ | ⟨w, _⟩ | ⟨w0, w, w3, _⟩ | ⟨w, w3, _⟩ | ⟨w3, _, w4, w⟩
  · rw [if_neg (by omega), if_neg (by omega)]
  · exact absurd w hk
  · rw [if_neg (by omega), if_neg (by omega)]
  · rw [if_neg (by omega), if_neg (by omega)]
  · rw [if_pos w3]
    have q := w4.iff (own_R k1)
    by_cases e : m 0 7 = OWNW.getD k 0
    · rw [if_pos e]
      have v := q.mpr e
      rcases w with ⟨j, j1, j2, j3⟩ | ⟨_, j2⟩
      · rw [own_ne j j1 k k1 (by rw [j3, v])] at j2
        rw [if_pos j2]
      · exact absurd v.symm (j2 k k1)
    · rw [if_neg e]
      rcases w with ⟨j, j1, j2, j3⟩ | ⟨j1, _⟩
      · rw [if_neg (fun x => e (q.mp (by rw [← j3, show j = k from by omega])))]
      · rw [if_neg (by omega)]
theorem isSign_ok {c : zX} {i ch : Int} {m : zM} (h : PM c i m) (hk : xm c 4 i ≠ 257) (c1 : ch ≤ 255) : M_isSign ch m = some (if xm c 4 i = ch then 1 else 0) := by
  unfold M_isSign
  rcases h.2.1.2 with ⟨w, w3, _⟩ | ⟨w, _⟩ | ⟨w0, w, w3, w6, _⟩ | ⟨w, w3, _⟩ | ⟨w3, _, w4, w⟩
  · rw [if_neg (by omega), if_neg (by omega)]
  · exact absurd w hk
  · rw [if_pos w3, w6]
    by_cases e : xm c 4 i = ch
    · rw [if_pos e, if_pos e]
    · rw [if_neg e, if_neg e]
  · rw [if_neg (by omega), if_neg (by omega)]
  · have := knd_b w
    rw [if_neg (by omega), if_neg (by omega)]
/-- one step of both: well, or with the same fault -/
def JS (c : zX) (i : Int) (mC mM : zM) (a : Int × zM) (b : zM) : Prop := ((a.1 = 1 ∧ PC c i a.2 ∧ PM c i b) ∨ (a.1 = 0 ∧ FE a.2 b)) ∧ frK mC a.2 ∧ frG mM b
theorem JS.bad {c : zX} {i : Int} {mC mM : zM} {k p : Int} (hk : 0 < k) : JS c i mC mM (0, fmC mC k p) (fmM mM k p) := ⟨Or.inr ⟨rfl, FE_fm hk⟩, fmC_K, fmM_G⟩
theorem must__1 {m : zM} {w : Int} (h : 0 < m 0 8) : M_must_ w m = some m := by
  unfold M_must_
  rw [lex_1 h, Option.bind_some, if_pos h]
theorem must_1 {m : zM} {w : Int} (h : 0 < m 0 8) : M_must w m = some m := by
  unfold M_must
  rw [lex_1 h, Option.bind_some]
  have e : M_must_b21 m = some m := by
    unfold M_must_b21
    rw [if_neg (by omega)]
  unfold M_isSign
  split <;> (try split) <;> rw [Option.bind_some] <;> simp [blame_1 h, e]
theorem tok_w {c : zX} {i kc w : Int} {mC mM : zM} {k : Nat} (hL : LX c) (h : PC c i mC) (hM : PM c i mM) (k1 : k < 30) (ek : kc = 300 + (k : Int)) (ew : w = OWNW.getD k 0) : wp (Pa_token kc mC) (fun a => wp (M_must_ w mM) (fun b => JS c (i + 1) mC mM a b)) := by
  have bi := hM.i0 hL
  unfold Pa_token M_must_
  rw [kind_ok hL h hM, Option.bind_some]
  by_cases c7 : xm c 4 i = 257
  · rw [if_neg (by omega), fail_ok hL h hM, Option.bind_some, lex_bad hM c7, Option.bind_some, if_pos (by rw [fmM_8]; decide)]
    exact wp_some (wp_some (JS.bad (by decide)))
  · rw [lex_ok hM c7, Option.bind_some, if_neg (show ¬ 0 < mM 0 8 by rw [hM.2.2.2.1]; decide), ew, isWord_ok hM c7 k1, Option.bind_some]
    by_cases ck : xm c 4 i = kc
    · rw [if_pos ck, if_pos (show xm c 4 i = 300 + (k : Int) by omega), if_neg (by decide), pf_ok, h.2, wI_ok (x := i + 1) (by omega) (by omega)]
      unfold M_must__b29
      rw [if_pos hM.2.2.2.1]
      refine wp_some (wp_bm (hM.step hL (hM.lt hL (by omega) c7)) (fun b ⟨b1, b2⟩ => wp_some ?_))
      exact ⟨Or.inl ⟨rfl, h.keep (frK.refl.put (by simp)) (ru3 rfl rfl), b1⟩, frK.refl.put (by simp), b2.G⟩
    · rw [if_neg ck, if_neg (show ¬ xm c 4 i = 300 + (k : Int) by omega), if_pos rfl, fail_ok hL h hM, Option.bind_some, blame_0 hM.2.2.2.1, Option.bind_some]
      unfold M_must__b29
      rw [if_neg (by rw [fmM_8]; decide), hM.at]
      have e : plc c 1 i = xm c 5 i := if_neg (fun x => c7 x.2)
      rw [e]
      exact wp_some (wp_some (JS.bad (by decide)))
theorem tok_s {c : zX} {i ch : Int} {mC mM : zM} (hL : LX c) (h : PC c i mC) (hM : PM c i mM) (k1 : ch ≤ 255) : wp (Pa_token ch mC) (fun a => wp (M_must ch mM) (fun b => JS c (i + 1) mC mM a b)) := by
  have bi := hM.i0 hL
  unfold Pa_token
  rw [kind_ok hL h hM, Option.bind_some]
  by_cases c7 : xm c 4 i = 257
  · have e : M_must ch mM = some (fmM mM 1 (plc c 1 i)) := by
      have hh : 0 < fmM mM 1 (plc c 1 i) 0 8 := by rw [fmM_8]; decide
      have := must_1 (m := fmM mM 1 (plc c 1 i)) (w := ch) hh
      unfold M_must at this ⊢
      rw [lex_1 hh] at this
      rw [lex_bad hM c7]
      exact this
    rw [if_neg (by omega), fail_ok hL h hM, Option.bind_some, e]
    exact wp_some (wp_some (JS.bad (by decide)))
  · unfold M_must
    rw [lex_ok hM c7, Option.bind_some, isSign_ok hM c7 k1, Option.bind_some]
    by_cases ck : xm c 4 i = ch
    · rw [if_pos ck, if_pos ck, if_neg (by decide), pf_ok, h.2, wI_ok (x := i + 1) (by omega) (by omega)]
      unfold M_must_b21
      rw [if_pos hM.2.2.2.1]
      refine wp_some (wp_bm (hM.step hL (hM.lt hL (by omega) c7)) (fun b ⟨b1, b2⟩ => wp_some ?_))
      exact ⟨Or.inl ⟨rfl, h.keep (frK.refl.put (by simp)) (ru3 rfl rfl), b1⟩, frK.refl.put (by simp), b2.G⟩
    · rw [if_neg ck, if_neg ck, if_pos rfl, fail_ok hL h hM, Option.bind_some, blame_0 hM.2.2.2.1, Option.bind_some]
      unfold M_must_b21
      rw [if_neg (by rw [fmM_8]; decide), hM.at]
      have e : plc c 1 i = xm c 5 i := if_neg (fun x => c7 x.2)
      rw [e]
      exact wp_some (wp_some (JS.bad (by decide)))
/-- a number: also the number that both have -/
def JN (c : zX) (i : Int) (lo hi : Int) (mC mM : zM) (a b : Int × zM) : Prop := ((a.1 = 1 ∧ PC c i a.2 ∧ PM c i b.2 ∧ a.2 1 8 = b.1 ∧ lo ≤ b.1 ∧ b.1 ≤ hi) ∨ (a.1 = 0 ∧ FE a.2 b.2)) ∧ frK mC a.2 ∧ frG mM b.2
theorem number_1 {m : zM} {x y : Int} (h : 0 < m 0 8) : M_number x y m = some (0, m) := by
  unfold M_number
  rw [lex_1 h, Option.bind_some, if_pos h]
theorem num_J {c : zX} {i lo hi : Int} {mC mM : zM} (hL : LX c) (h : PC c i mC) (hM : PM c i mM) : wp (Pa_number lo hi mC) (fun a => wp (M_number lo hi mM) (fun b => JN c (i + 1) lo hi mC mM a b)) := by
  have bi := hM.i0 hL
  unfold Pa_number M_number
  rw [kind_ok hL h hM, Option.bind_some]
  by_cases c7 : xm c 4 i = 257
  · rw [if_neg (by omega), fail_ok hL h hM, Option.bind_some, lex_bad hM c7, Option.bind_some, if_pos (by rw [fmM_8]; decide)]
    exact wp_some (wp_some ⟨Or.inr ⟨rfl, FE_fm (by decide)⟩, fmC_K, fmM_G⟩)
  · rw [lex_ok hM c7, Option.bind_some, if_neg (show ¬ 0 < mM 0 8 by rw [hM.2.2.2.1]; decide)]
    have p1 : plc c 1 i = xm c 5 i := if_neg (fun x => c7 x.2)
    have p4 : plc c 4 i = xm c 5 i := if_neg (fun x => absurd x.1 (by decide))
    by_cases ck : xm c 4 i = 259
    · have e3 : mM 0 3 = 2 ∧ mM 0 6 = xm c 6 i := by
        rcases hM.2.1.2 with ⟨w, _⟩ | ⟨w, _⟩ | ⟨w0, w, _⟩ | ⟨w, w3, w6, _⟩ | ⟨w3, _, w4, w⟩
        · omega
        · omega
        · omega
        · exact ⟨w3, w6⟩
        · rcases w with ⟨k, _, k2, _⟩ | ⟨k, _⟩ <;> omega
      rw [if_pos ck, h.2, rd_ok bi.1 bi.2.1, pf_ok, h.1.2.2.2.1, ru3 rfl rfl, if_pos e3.1]
      unfold M_number_b30
      rw [if_pos hM.2.2.2.1, e3.2]
      have hK : PC c i (upm mC 1 8 (xm c 6 i)) := h.keep (frK.refl.put (by simp)) (by rw [ru2 (by decide)]; exact h.2)
      have bad : wp (some ((0 : Int), fmC (upm mC 1 8 (xm c 6 i)) 4 (plc c 4 i))) (fun a => wp ((M_blame 4 (mM 0 4) mM).bind (fun r9 => M_number_b58 r9)) (fun b => JN c (i + 1) lo hi mC mM a b)) := by
        rw [blame_0 hM.2.2.2.1, Option.bind_some]
        unfold M_number_b58
        rw [if_neg (by rw [fmM_8]; decide), hM.at, p4]
        exact wp_some (wp_some ⟨Or.inr ⟨rfl, FE_fm (by decide)⟩, (frK.refl.put (by simp)).trans fmC_K, fmM_G⟩)
      by_cases c1 : xm c 6 i < lo
      · have ei : M_is (xm c 6 i) lo hi = some 0 := by
          unfold M_is
          rw [if_pos c1]
        rw [if_pos c1, fail_ok hL hK hM, Option.bind_some, ei, Option.bind_some, if_pos rfl]
        exact bad
      · rw [if_neg c1]
        by_cases c2 : hi < xm c 6 i
        · have ei : M_is (xm c 6 i) lo hi = some 0 := by
            unfold M_is
            rw [if_neg c1, if_pos c2]
          rw [if_pos c2, fail_ok hL hK hM, Option.bind_some, ei, Option.bind_some, if_pos rfl]
          exact bad
        · have ei : M_is (xm c 6 i) lo hi = some 1 := by
            unfold M_is
            rw [if_neg c1, if_neg c2]
          rw [if_neg c2, pf_ok, ei, Option.bind_some, if_neg (by decide), hK.2, wI_ok (x := i + 1) (by omega) (by omega)]
          unfold M_number_b58
          rw [if_pos hM.2.2.2.1]
          refine wp_some (wp_bm (hM.step hL (hM.lt hL (by omega) c7)) (fun b ⟨b1, b2⟩ => wp_some ?_))
          refine ⟨Or.inl ⟨rfl, hK.keep (frK.refl.put (by simp)) (ru3 rfl rfl), b1, ?_, ?_, ?_⟩, (frK.refl.put (by simp)).put (by simp), b2.G⟩
          · show upm (upm mC 1 8 (xm c 6 i)) 1 7 (i + 1) 1 8 = mM 0 6
            rw [ru2 (by decide), ru3 rfl rfl, e3.2]
          · show lo ≤ mM 0 6
            omega
          · show mM 0 6 ≤ hi
            omega
    · have e3 : ¬ mM 0 3 = 2 := by
        rcases hM.2.1.2 with ⟨w, w3, _⟩ | ⟨w, _⟩ | ⟨w0, w, w3, _⟩ | ⟨w, _⟩ | ⟨w3, _, w4, w⟩
        · omega
        · exact absurd w c7
        · omega
        · exact absurd w ck
        · omega
      rw [if_neg ck, fail_ok hL h hM, Option.bind_some, if_neg e3, blame_0 hM.2.2.2.1, Option.bind_some]
      unfold M_number_b30
      rw [if_neg (by rw [fmM_8]; decide)]
      unfold M_number_b58
      rw [if_neg (by rw [fmM_8]; decide), hM.at, p1]
      exact wp_some (wp_some ⟨Or.inr ⟨rfl, FE_fm (by decide)⟩, fmC_K, fmM_G⟩)
