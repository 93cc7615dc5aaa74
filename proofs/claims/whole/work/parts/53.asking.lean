/-! an hour: choices, then what becomes of them; the model does both at once -/
def stlV (Z S : zM) : Nat → zM
  | 0 => S
  | n + 1 => if akV Z S n = -1 then stlV Z S n else setS Z (stlV Z S n) n (akV Z S n)
def agG (S S' : zM) (g : Int) : Prop := (∀ k, 0 ≤ k → k < 3 → S' 1 (g * 3 + k) = S 1 (g * 3 + k)) ∧ S' 2 g = S 2 g ∧ S' 3 g = S 3 g ∧ ∀ b, 0 ≤ b → b < 6 → S' 5 (b * 8 + g) = S 5 (b * 8 + g)
def agS (S S' : zM) : Prop := S' 4 = S 4 ∧ S' 0 0 = S 0 0 ∧ S' 0 1 = S 0 1
theorem ag_suit {S S' : zM} {b g : Int} (a : agS S S') (h : agG S S' g) : suit S' b g = suit S b g := by
  unfold suit
  rw [a.1, h.1 0 (by omega) (by omega), h.1 1 (by omega) (by omega), h.1 2 (by omega) (by omega)]
theorem ag_scn {S S' : zM} {b g : Int} (a : agS S S') (h : agG S S' g) (b0 : 0 ≤ b) (b1 : b < 6) : scn S' b g = scn S b g := by
  funext i
  unfold scn
  rw [ag_suit a h, h.2.2.2 b b0 b1, a.2.2]
  by_cases e : 3 ≤ i ∧ i < 6
  · rw [if_pos e, if_pos e, h.1 (i - 3) (by omega) (by omega)]
  · rw [if_neg e, if_neg e]
theorem ag_lk {Z S S' : zM} {b g : Int} (a : agS S S') (h : agG S S' g) (b0 : 0 ≤ b) (b1 : b < 6) : LKV Z S' b g = LKV Z S b g := by
  unfold LKV
  rw [ag_suit a h, ag_scn a h b0 b1, h.2.2.2 b b0 b1]
theorem ag_may {Z S S' : zM} {b g fr : Int} (a : agS S S') (h : agG S S' g) (b0 : 0 ≤ b) (b1 : b < 6) : mayV Z S' b g fr = mayV Z S b g fr := by
  unfold mayV scm
  rw [ag_lk a h b0 b1, ag_scn a h b0 b1]
theorem ag_open {Z S S' : zM} {b g : Int} (a : agS S S') (h : agG S S' g) : opV Z S' b g = opV Z S b g := by
  unfold opV thV
  rw [a.2.2, h.2.1, h.2.2.1]
theorem ag_aw {Z S S' : zM} {b : Int} (a : agS S S') : awV Z S' b = awV Z S b := by
  unfold awV
  rw [a.2.2]
theorem ag_fav {Z S S' : zM} {b taken fr : Int} (a : agS S S') (b0 : 0 ≤ b) (b1 : b < 6) (h : ∀ g, 0 ≤ g → g < 8 → anI (srI taken g) 1 = 0 → agG S S' g) : ∀ n : Nat, n ≤ 8 → favV Z S' b taken fr n = favV Z S b taken fr n
  | 0, _ => rfl
  | n + 1, hn => by
    have ih := ag_fav (Z := Z) (fr := fr) a b0 b1 h n (by omega)
    unfold favV
    rw [ih, ag_aw a]
    by_cases e : anI (srI taken n) 1 = 0
    · have g := h n (by omega) (by omega) e
      rw [ag_open a g, ag_lk a g b0 b1, ag_may a g b0 b1]
    · rw [if_neg (fun t => e t.2.2.1), if_neg (fun t => e t.2.2.1)]
theorem ag_wish {Z S S' : zM} {b taken fr : Int} (n8 : Z 0 1 ≤ 8) (a : agS S S') (b0 : 0 ≤ b) (b1 : b < 6) (h : ∀ g, 0 ≤ g → g < 8 → anI (srI taken g) 1 = 0 → agG S S' g) : wishV Z S' b taken fr = wishV Z S b taken fr := by
  unfold wishV
  rw [ag_fav a b0 b1 h _ (by omega), ag_aw a]
/-- what a meeting leaves alone -/
theorem met_ag {Z S S' : zM} {b g oc : Int} (hS : S' = (metS Z S b g).1) : agS S (keepS S' b g oc) ∧ ∀ g', g' ≠ g → 0 ≤ g' → g' < 8 → 0 ≤ g → g < 8 → agG S (keepS S' b g oc) g' := by
  have k : ∀ q i, q ≠ 7 → (q ≠ 0 ∨ (i ≠ 10 ∧ i ≠ 11)) → keepS S' b g oc q i = S' q i := by
    intro q i h1 h2
    unfold keepS
    split
    · rcases h2 with h2 | h2
      · rw [ru1 h2, ru1 h1]
      · rw [ru2 h2.2, ru1 h1]
    · rcases h2 with h2 | h2
      · rw [ru1 h2, ru1 h1]
      · rw [ru2 h2.1, ru1 h1]
  have kk : ∀ q, q ≠ 7 → q ≠ 0 → keepS S' b g oc q = S' q := fun q h1 h2 => funext fun i => k q i h1 (Or.inl h2)
  have i0 : ∀ q, q ≠ 5 → q ≠ 6 → incS S b g q = S q := fun q h1 h2 => by unfold incS; rw [upm_ne h2, upm_ne h1]
  have i5 : ∀ i, i ≠ b * 8 + g → incS S b g 5 i = S 5 i := fun i h => by unfold incS; rw [ru1 (by decide), ru2 h]
  have m4 : S' 4 = S 4 ∧ S' 0 0 = S 0 0 ∧ S' 0 1 = S 0 1 ∧ S' 1 = S 1 ∧ (∀ i, i ≠ g → S' 2 i = S 2 i ∧ S' 3 i = S 3 i) ∧ ∀ i, i ≠ b * 8 + g → S' 5 i = S 5 i := by
    subst hS
    unfold metS
    by_cases c1 : feV Z b g = 1
    · rw [if_pos c1]
      refine ⟨?_, ?_, ?_, ?_, fun i h => ⟨?_, ?_⟩, fun i h => ?_⟩
      · show upm S 0 2 (min 9999 (S 0 2 + Z 0 17)) 4 = _; rw [upm_ne (by decide)]
      · show upm S 0 2 (min 9999 (S 0 2 + Z 0 17)) 0 0 = _; rw [ru2 (by decide)]
      · show upm S 0 2 (min 9999 (S 0 2 + Z 0 17)) 0 1 = _; rw [ru2 (by decide)]
      · show upm S 0 2 (min 9999 (S 0 2 + Z 0 17)) 1 = _; rw [upm_ne (by decide)]
      · show upm S 0 2 (min 9999 (S 0 2 + Z 0 17)) 2 i = _; rw [ru1 (by decide)]
      · show upm S 0 2 (min 9999 (S 0 2 + Z 0 17)) 3 i = _; rw [ru1 (by decide)]
      · show upm S 0 2 (min 9999 (S 0 2 + Z 0 17)) 5 i = _; rw [ru1 (by decide)]
    · rw [if_neg c1]
      by_cases c2 : LKV Z (incS S b g) b g < Z 0 15
      · rw [if_pos c2]
        refine ⟨?_, ?_, ?_, ?_, fun i h => ⟨?_, ?_⟩, fun i h => ?_⟩
        · show upm (incS S b g) 3 g (orI (S 3 g) (slI 1 b)) 4 = _; rw [upm_ne (by decide), i0 4 (by decide) (by decide)]
        · show upm (incS S b g) 3 g (orI (S 3 g) (slI 1 b)) 0 _ = _; rw [upm_ne (by decide), i0 0 (by decide) (by decide)]
        · show upm (incS S b g) 3 g (orI (S 3 g) (slI 1 b)) 0 _ = _; rw [upm_ne (by decide), i0 0 (by decide) (by decide)]
        · show upm (incS S b g) 3 g (orI (S 3 g) (slI 1 b)) 1 = _; rw [upm_ne (by decide), i0 1 (by decide) (by decide)]
        · show upm (incS S b g) 3 g (orI (S 3 g) (slI 1 b)) 2 _ = _; rw [upm_ne (by decide), i0 2 (by decide) (by decide)]
        · show upm (incS S b g) 3 g (orI (S 3 g) (slI 1 b)) 3 _ = _; rw [ru2 h, i0 3 (by decide) (by decide)]
        · show upm (incS S b g) 3 g (orI (S 3 g) (slI 1 b)) 5 _ = _; rw [upm_ne (by decide), i5 i h]
      · rw [if_neg c2]
        by_cases c3 : incS S b g 6 (b * 8 + g) < Z 0 16
        · rw [if_pos c3]
          refine ⟨?_, ?_, ?_, ?_, fun i h => ⟨?_, ?_⟩, fun i h => ?_⟩
          · show incS S b g 4 = _; rw [i0 4 (by decide) (by decide)]
          · show incS S b g 0 _ = _; rw [i0 0 (by decide) (by decide)]
          · show incS S b g 0 _ = _; rw [i0 0 (by decide) (by decide)]
          · show incS S b g 1 = _; rw [i0 1 (by decide) (by decide)]
          · show incS S b g 2 _ = _; rw [i0 2 (by decide) (by decide)]
          · show incS S b g 3 _ = _; rw [i0 3 (by decide) (by decide)]
          · show incS S b g 5 _ = _; rw [i5 i h]
        · rw [if_neg c3]
          refine ⟨?_, ?_, ?_, ?_, fun i h => ⟨?_, ?_⟩, fun i h => ?_⟩
          · show upm (incS S b g) 2 g b 4 = _; rw [upm_ne (by decide), i0 4 (by decide) (by decide)]
          · show upm (incS S b g) 2 g b 0 _ = _; rw [upm_ne (by decide), i0 0 (by decide) (by decide)]
          · show upm (incS S b g) 2 g b 0 _ = _; rw [upm_ne (by decide), i0 0 (by decide) (by decide)]
          · show upm (incS S b g) 2 g b 1 = _; rw [upm_ne (by decide), i0 1 (by decide) (by decide)]
          · show upm (incS S b g) 2 g b 2 _ = _; rw [ru2 h, i0 2 (by decide) (by decide)]
          · show upm (incS S b g) 2 g b 3 _ = _; rw [upm_ne (by decide), i0 3 (by decide) (by decide)]
          · show upm (incS S b g) 2 g b 5 _ = _; rw [upm_ne (by decide), i5 i h]
  obtain ⟨q1, q2, q3, q4, q5, q6⟩ := m4
  refine ⟨⟨by rw [kk 4 (by decide) (by decide), q1], by rw [k 0 0 (by decide) (Or.inr (by decide)), q2], by rw [k 0 1 (by decide) (Or.inr (by decide)), q3]⟩, fun g' e g0 g1 h0 h1 => ⟨fun j j0 j1 => by rw [kk 1 (by decide) (by decide), q4], by rw [kk 2 (by decide) (by decide)]; exact (q5 g' e).1, by rw [kk 3 (by decide) (by decide)]; exact (q5 g' e).2, fun b' b0 b1 => ?_⟩⟩
  rw [kk 5 (by decide) (by decide)]
  exact q6 _ (by omega)
theorem ag_trans {S S' S2 : zM} (h : agS S S') (h2 : agS S' S2) : agS S S2 := ⟨h2.1.trans h.1, h2.2.1.trans h.2.1, h2.2.2.trans h.2.2⟩
theorem agG_trans {S S' S2 : zM} {g : Int} (h : agG S S' g) (h2 : agG S' S2 g) : agG S S2 g := ⟨fun k q1 q2 => (h2.1 k q1 q2).trans (h.1 k q1 q2), h2.2.1.trans h.2.1, h2.2.2.1.trans h.2.2.1, fun b q1 q2 => (h2.2.2.2 b q1 q2).trans (h.2.2.2 b q1 q2)⟩
/-- bits of sets of guests -/
theorem tk_or {x g : Int} (h0 : 0 ≤ x) (h1 : x ≤ 255) (g0 : 0 ≤ g) (g1 : g < 8) : (0 ≤ orI x (slI 1 g) ∧ orI x (slI 1 g) ≤ 255) ∧ ∀ g', 0 ≤ g' → g' < 8 → anI (srI (orI x (slI 1 g)) g') 1 = 0 → g' ≠ g ∧ anI (srI x g') 1 = 0 := by
  obtain ⟨n, rfl⟩ : ∃ n : Nat, x = n := ⟨x.toNat, by omega⟩
  obtain ⟨k, rfl⟩ : ∃ k : Nat, g = k := ⟨g.toNat, by omega⟩
  have p2 : 2 ^ k < 256 := Nat.pow_lt_pow_right (by decide) (show k < 8 by omega)
  have po : n ||| 2 ^ k < 2 ^ 8 := Nat.or_lt_two_pow (by omega) p2
  rw [slI_1 (by omega), orI_nat (by omega) (by omega)]
  refine ⟨⟨by omega, by omega⟩, fun g' q0 q1 h => ?_⟩
  obtain ⟨k', rfl⟩ : ∃ k : Nat, g' = k := ⟨g'.toNat, by omega⟩
  rw [bit_1 (by omega) (by omega), Nat.testBit_or, Nat.testBit_two_pow] at h
  rw [bit_1 (by omega) (by omega)]
  by_cases e : k = k'
  · subst e
    simp at h
  · refine ⟨fun w => e (by omega), ?_⟩
    cases hb : n.testBit k' with
    | false => rfl
    | true => rw [hb] at h; simp at h
theorem ch_t {Z S mM : zM} {bk v : Int} (h : GG Z S mM bk v) : ∀ n : Nat, (n : Int) ≤ Z 0 0 → 0 ≤ (chV Z S n).1 ∧ (chV Z S n).1 ≤ 255
  | 0, _ => ⟨Int.le_refl 0, by show (0 : Int) ≤ 255; omega⟩
  | n + 1, hn => by
    have n2 := h.ng
    have ih := ch_t h n (by omega)
    have wb := ws_b h (taken := (chV Z S n).1) (fr := (chV Z S n).2) (b := n) (by omega) (by omega)
    unfold chV
    split
    · exact ih
    · exact (tk_or ih.1 ih.2 (by omega) (by omega)).1
theorem stl_ag {Z S mM : zM} {bk v : Int} (h : GG Z S mM bk v) : ∀ n : Nat, (n : Int) ≤ Z 0 0 → agS S (stlV Z S n) ∧ ∀ g, 0 ≤ g → g < 8 → anI (srI (chV Z S n).1 g) 1 = 0 → agG S (stlV Z S n) g
  | 0, _ => ⟨⟨rfl, rfl, rfl⟩, fun g _ _ _ => ⟨fun _ _ _ => rfl, rfl, rfl, fun _ _ _ => rfl⟩⟩
  | n + 1, hn => by
    have n2 := h.ng
    have ih := stl_ag h n (by omega)
    have tb := ch_t h n (by omega)
    have wb := ws_b h (taken := (chV Z S n).1) (fr := (chV Z S n).2) (b := n) (by omega) (by omega)
    unfold stlV chV
    by_cases e : akV Z S n = -1
    · rw [if_pos e, if_pos (show wishV Z S n _ _ = -1 from e)]
      exact ih
    · rw [if_neg e, if_neg (show ¬ wishV Z S n _ _ = -1 from e)]
      have ma := met_ag (Z := Z) (S := stlV Z S n) (b := n) (g := akV Z S n) (oc := (metS Z (stlV Z S n) n (akV Z S n)).2) rfl
      have e0 : 0 ≤ akV Z S n ∧ akV Z S n < 8 := by
        have : akV Z S n = wishV Z S n (chV Z S n).1 (chV Z S n).2 := rfl
        omega
      refine ⟨ag_trans ih.1 ma.1, fun g g0 g1 hg => ?_⟩
      have to := (tk_or tb.1 tb.2 e0.1 e0.2).2 g g0 g1 hg
      exact agG_trans (ih.2 g g0 g1 to.2) (ma.2 g to.1 g0 g1 e0.1 e0.2)
theorem met_oc {Z S : zM} {b g : Int} : 0 ≤ (metS Z S b g).2 ∧ (metS Z S b g).2 ≤ 3 := by
  unfold metS
  by_cases c1 : feV Z b g = 1
  · rw [if_pos c1]; exact ⟨by show (0 : Int) ≤ 0; omega, by show (0 : Int) ≤ 3; omega⟩
  · rw [if_neg c1]
    by_cases c2 : LKV Z (incS S b g) b g < Z 0 15
    · rw [if_pos c2]; exact ⟨by show (0 : Int) ≤ 2; omega, by show (2 : Int) ≤ 3; omega⟩
    · rw [if_neg c2]
      by_cases c3 : incS S b g 6 (b * 8 + g) < Z 0 16
      · rw [if_pos c3]; exact ⟨by show (0 : Int) ≤ 1; omega, by show (1 : Int) ≤ 3; omega⟩
      · rw [if_neg c3]; exact ⟨by show (0 : Int) ≤ 3; omega, by show (3 : Int) ≤ 3; omega⟩
theorem stl_GG {Z S mM : zM} {bk v : Int} (h : GG Z S mM bk v) : ∀ n : Nat, (n : Int) ≤ Z 0 0 → ∃ mM', GG Z (stlV Z S n) mM' bk v
  | 0, _ => ⟨mM, h⟩
  | n + 1, hn => by
    have n1 := h.nb
    have n2 := h.ng
    obtain ⟨m1, h1⟩ := stl_GG h n (by omega)
    have wb := ws_b h (taken := (chV Z S n).1) (fr := (chV Z S n).2) (b := n) (by omega) (by omega)
    have ew : akV Z S n = wishV Z S n (chV Z S n).1 (chV Z S n).2 := rfl
    unfold stlV
    by_cases e : akV Z S n = -1
    · rw [if_pos e]; exact ⟨m1, h1⟩
    · rw [if_neg e]
      obtain ⟨r, _, _, r2, _⟩ := wp_comes h1 (b := n) (g := akV Z S n) (by omega) (by omega) (by omega) (by omega)
      obtain ⟨m2, _, r3, _⟩ := wp_writesDown r2 (b := n) (g := akV Z S n) (oc := (metS Z (stlV Z S n) n (akV Z S n)).2) (by omega) (by omega) (by omega) (by omega) met_oc.1 met_oc.2
      exact ⟨m2, r3⟩
/-- the model's hour -/
theorem wp_asking {Z S mM : zM} {bk v : Int} (h : GG Z S mM bk v) : wp (M_asking v mM) (fun r => r.1 = Z 0 14 - (chV Z S (Z 0 0).toNat).2 ∧ GG Z (stlV Z S (Z 0 0).toNat) r.2 bk v ∧ frA v mM r.2 ∧ (∀ b : Nat, (b : Int) < Z 0 0 → r.2 39 b = akV Z S b ∧ (akV Z S b ≠ -1 → r.2 40 b = (metS Z (stlV Z S b) b (akV Z S b)).2))) := by
  have n1 := h.nb
  have n2 := h.ng
  have n3 := h.bk
  have cb := ch_b (Z := Z) (S := S) h.ush
  unfold M_asking
  refine wp_for (fun n i (s : (Int × Int) × zM) => M_asking_L7 n v s.1.1 s.1.2 i s.2) (fun i s => (s.1.1 = (chV Z S i.toNat).1 ∧ s.1.2 = Z 0 14 - (chV Z S i.toNat).2) ∧ GG Z (stlV Z S i.toNat) s.2 bk v ∧ frA v mM s.2 ∧ (∀ b : Nat, (b : Int) < i → s.2 39 b = akV Z S b ∧ (akV Z S b ≠ -1 → s.2 40 b = (metS Z (stlV Z S b) b (akV Z S b)).2))) _ 0 (Z 0 0) ?_ ?_ 1000000 0 ((0, 0), mM) (by omega) (by omega) (by omega) ⟨⟨rfl, by show (0 : Int) = Z 0 14 - Z 0 14; omega⟩, h, frA.refl, fun b q => by omega⟩
  · intro n s hI
    obtain ⟨⟨i1, i2⟩, i3, i4, i5⟩ := hI
    show wp (M_asking_B7 _ _ _ _ _ _) _
    unfold M_asking_B7
    rw [i3.2.2.1, rd_ok (by omega) (by omega), i3.1.1.1, if_neg (by omega)]
    exact wp_some ⟨i2, i3, i4, i5⟩
  · intro n i s q0 q1 hI hr
    obtain ⟨⟨i1, i2⟩, i3, i4, i5⟩ := hI
    show wp (M_asking_B7 _ _ _ _ _ _) _
    unfold M_asking_B7
    have ei : ((i.toNat : Nat) : Int) = i := by omega
    have en : (i + 1).toNat = i.toNat + 1 := by omega
    have cbi := cb i.toNat
    have u := h.ush
    have ag := stl_ag h i.toNat (by omega)
    have wb := ws_b h (taken := (chV Z S i.toNat).1) (fr := (chV Z S i.toNat).2) (b := i) q0 q1
    have ew : akV Z S i.toNat = wishV Z S i (chV Z S i.toNat).1 (chV Z S i.toNat).2 := by unfold akV; rw [ei]
    rw [i3.2.2.1, rd_ok (by omega) (by omega), i3.1.1.1, if_pos q1, MG_told i3 (by omega) (by omega), Option.bind_some, i1, i2]
    rw [show Z 0 (14 + 0) = Z 0 14 from rfl, show Z 0 14 - (Z 0 14 - (chV Z S i.toNat).2) = (chV Z S i.toNat).2 from by omega, wI_ok (x := (chV Z S i.toNat).2) (by omega) (by omega)]
    refine wp_bm (wp_wished i3 q0 q1 cbi.1 cbi.2) (fun r ⟨r1, r2⟩ => ?_)
    rw [ag_wish n2.2 ag.1 q0 (by omega) ag.2, ← ew] at r1
    rw [wr_ok q0 (by omega), r1, wI_ok (x := i + 1) (by omega) (by omega)]
    have fO : eqO [37, 38, 39, 40] s.2 (upm r.2 39 i (akV Z S i.toNat)) := (r2.mono (by simp)).put (by simp)
    have h1 := i3.keepM fO
    have f1 : frA v mM (upm r.2 39 i (akV Z S i.toNat)) := i4.trans (.ofO fO)
    have o39 : ∀ b : Nat, (b : Int) < i → upm r.2 39 i (akV Z S i.toNat) 39 b = akV Z S b ∧ (akV Z S b ≠ -1 → upm r.2 39 i (akV Z S i.toNat) 40 b = (metS Z (stlV Z S b) b (akV Z S b)).2) := by
      intro b hb
      rw [ru2 (by omega), ru1 (by decide), r2 39 (by simp), r2 40 (by simp)]
      exact i5 b hb
    have g39 : upm r.2 39 i (akV Z S i.toNat) 39 i = akV Z S i.toNat := ru3 rfl rfl
    generalize upm r.2 39 i (akV Z S i.toNat) = m1 at *
    by_cases c : akV Z S i.toNat = -1
    · rw [if_pos c]
      have ec : chV Z S (i.toNat + 1) = chV Z S i.toNat := by
        show (if _ then _ else _) = _
        rw [if_pos (show wishV Z S (i.toNat : Int) _ _ = -1 from c)]
      have es : stlV Z S (i.toNat + 1) = stlV Z S i.toNat := by
        show (if _ then _ else _) = _
        rw [if_pos c]
      refine hr (((chV Z S i.toNat).1, Z 0 14 - (chV Z S i.toNat).2), m1) ⟨⟨by rw [en, ec], by rw [en, ec]⟩, by rw [en, es]; exact h1, f1, fun b hb => ?_⟩
      by_cases e : b = i.toNat
      · subst e
        rw [ei, ← ei, ei]
        exact ⟨g39, fun w => absurd c w⟩
      · exact o39 b (by omega)
    · rw [if_neg c, lt_ok]
      have ec : chV Z S (i.toNat + 1) = (orI (chV Z S i.toNat).1 (slI 1 (akV Z S i.toNat)), (chV Z S i.toNat).2 - 1) := by
        show (if _ then _ else _) = _
        rw [if_neg (show ¬ wishV Z S (i.toNat : Int) _ _ = -1 from c)]
        rfl
      have es : stlV Z S (i.toNat + 1) = setS Z (stlV Z S i.toNat) i (akV Z S i.toNat) := by
        show (if _ then _ else _) = _
        rw [if_neg c, ei]
      refine wp_bm (wp_comes h1 q0 q1 (by omega) (by omega)) (fun r' ⟨t1, t2, t3⟩ => ?_)
      rw [wr_ok q0 (by omega), rd_ok q0 (by omega), ru3 rfl rfl, t1]
      have fO2 : eqO [37, 38, 39, 40] r'.2 (upm r'.2 40 i (metS Z (stlV Z S i.toNat) i (akV Z S i.toNat)).2) := eqO.refl.put (by simp)
      refine wp_bm (wp_writesDown (t2.keepM fO2) q0 (by omega) (by omega) (by omega) met_oc.1 met_oc.2) (fun m2 ⟨w1, w2⟩ => ?_)
      rw [wI_ok (x := Z 0 14 - (chV Z S i.toNat).2 + 1) (by omega) (by omega)]
      have w39 : m2 39 = m1 39 := by rw [w2.1 39 (by omega), upm_ne (by decide), t3.1 39 (by omega)]
      have w40 : ∀ j, m2 40 j = if j = i then (metS Z (stlV Z S i.toNat) i (akV Z S i.toNat)).2 else m1 40 j := by
        intro j
        rw [w2.1 40 (by omega), upm_eq, t3.1 40 (by omega)]
        rfl
      refine hr ((orI (chV Z S i.toNat).1 (slI 1 (akV Z S i.toNat)), Z 0 14 - (chV Z S i.toNat).2 + 1), m2) ⟨⟨by rw [en, ec], ?_⟩, by rw [en, es]; exact w1, f1.trans (t3.A.trans ((frA.ofO fO2).trans w2.A)), fun b hb => ?_⟩
      · rw [en, ec]
        show Z 0 14 - (chV Z S i.toNat).2 + 1 = Z 0 14 - ((chV Z S i.toNat).2 - 1)
        omega
      · show m2 39 b = _ ∧ (_ → m2 40 b = _)
        rw [w39, w40]
        by_cases e : b = i.toNat
        · subst e
          rw [ei, if_pos rfl]
          exact ⟨g39, fun _ => rfl⟩
        · rw [if_neg (by omega)]
          exact o39 b (by omega)
