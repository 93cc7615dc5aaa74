/-! on, the class: what is taken so far, and whether all of it was sound -/
theorem all_s {i : Int} {Q : Int → Prop} (h : 0 ≤ i) : (∀ k, 0 ≤ k → k < i + 1 → Q k) ↔ ((∀ k, 0 ≤ k → k < i → Q k) ∧ Q i) := by
  constructor
  · exact fun a => ⟨fun k h0 h1 => a k h0 (by omega), a i h (by omega)⟩
  · intro ⟨a, b⟩ k h0 h1
    by_cases e : k = i
    · rw [e]; exact b
    · exact a k h0 (by omega)
theorem all_0 {Q : Int → Prop} : ∀ k, 0 ≤ k → k < 0 → Q k := fun k h0 h1 => by omega
def tkF (l : List Nat) (m m' : zM) : Prop := eqO (52 :: l) m m' ∧ ∀ j, j < 2 → m' 52 j = m 52 j
theorem tkF.refl {l : List Nat} {m : zM} : tkF l m m := ⟨eqO.refl, fun _ _ => rfl⟩
theorem tkF.trans {l : List Nat} {m m' m2 : zM} (h : tkF l m m') (h2 : tkF l m' m2) : tkF l m m2 := ⟨h.1.trans h2.1, fun j hj => by rw [h2.2 j hj, h.2 j hj]⟩
theorem tkF.mono {l l' : List Nat} {m m' : zM} (h : tkF l m m') (hl : ∀ a, a ∈ l → a ∈ l') : tkF l' m m' := ⟨h.1.mono (fun a ha => by
  rcases List.mem_cons.mp ha with e | e
  · exact List.mem_cons.mpr (Or.inl e)
  · exact List.mem_cons.mpr (Or.inr (hl a e))), h.2⟩
theorem tkF.put {l : List Nat} {m m' : zM} {a : Nat} {i v : Int} (h : tkF l m m') (ha : a ∈ l) (h52 : a ≠ 52) : tkF l m (upm m' a i v) := ⟨h.1.put (List.mem_cons.mpr (Or.inr ha)), fun j hj => by rw [ru1 (fun e => h52 e.symm)]; exact h.2 j hj⟩
theorem tkF.put52 {l : List Nat} {m m' : zM} {i v : Int} (h : tkF l m m') (hi : 2 ≤ i) : tkF l m (upm m' 52 i v) := ⟨h.1.put (List.mem_cons.mpr (Or.inl rfl)), fun j hj => by rw [ru2 (by omega)]; exact h.2 j hj⟩
theorem tkF.at {l : List Nat} {m m' : zM} (h : tkF l m m') (a : Nat) (ha : a ≠ 52) (hl : a ∉ l) : m' a = m a := h.1 a (fun w => by
  rcases List.mem_cons.mp w with e | e
  · exact ha e
  · exact hl e)
theorem tkV_F {m : zM} {x : Int} : tkF [] m (tkV m x).2 := by
  unfold tkV
  by_cases c : m 52 3 < 1600 ∧ m 3 (m 52 3) ≤ x
  · rw [if_pos c]
    exact tkF.refl.put52 (by omega)
  · rw [if_neg c]
    exact tkF.refl.put52 (by omega)
def tkT (s : zM) (p : Int) (P : Prop) : Prop := s 52 2 = 4 ∧ 0 ≤ s 52 3 ∧ ((s 52 4 = 1 ∧ s 52 3 = p ∧ P) ∨ (s 52 4 = 0 ∧ ¬ P))
theorem tkT.iff {s : zM} {p q : Int} {P P' : Prop} (h : tkT s p P) (e : P ↔ P') (hp : p = q) : tkT s q P' := by
  subst hp
  refine ⟨h.1, h.2.1, ?_⟩
  rcases h.2.2 with ⟨a, b, c⟩ | ⟨a, b⟩
  · exact Or.inl ⟨a, b, e.mp c⟩
  · exact Or.inr ⟨a, fun t => b (e.mpr t)⟩
theorem tkT.put {s : zM} {p : Int} {P : Prop} {a : Nat} {i v : Int} (h : tkT s p P) (ha : a ≠ 52) : tkT (upm s a i v) p P := by
  unfold tkT
  rw [upm_ne (fun e => ha e.symm)]
  exact h
theorem tkT.step {s : zM} {p : Int} (x : Int) {P : Prop} (h : tkT s p P) (p1 : p < 1600) : ∃ r, Im_takeByte x s = some r ∧ tkT r.2 (p + 1) (P ∧ s 3 p ≤ x) ∧ (P → s 3 p ≤ x → r.1 = s 3 p) ∧ tkF [] s r.2 := by
  refine ⟨tkV s x, tk_ok h.1 h.2.1, ?_, ?_, tkV_F⟩
  · have k := tk_keep (x := x) h.1 h.2.1
    refine ⟨k.1, k.2.1, ?_⟩
    rcases h.2.2 with ⟨e1, e2, e3⟩ | ⟨e1, e2⟩
    · by_cases c : s 3 p ≤ x
      · rw [tk_in e2 rfl p1 c]
        dsimp only
        exact Or.inl ⟨by rw [ru2 (by omega)]; exact e1, ru3 rfl rfl, e3, c⟩
      · rw [tk_out e2 rfl (by omega)]
        dsimp only
        exact Or.inr ⟨ru3 rfl rfl, fun t => c t.2⟩
    · exact Or.inr ⟨k.2.2.2 e1, fun t => e2 t.1⟩
  · intro hP c
    rcases h.2.2 with ⟨e1, e2, e3⟩ | ⟨e1, e2⟩
    · rw [tk_in e2 rfl p1 c]
    · exact absurd hP e2
theorem tkT.pair {s : zM} {p : Int} (x : Int) {P : Prop} (h : tkT s p P) (p1 : p + 1 < 1600) (b0 : 0 ≤ s 3 p ∧ s 3 p ≤ 255) (b1 : 0 ≤ s 3 (p + 1) ∧ s 3 (p + 1) ≤ 255) : wp (Im_takePair x s) (fun r => tkT r.2 (p + 2) (P ∧ s 3 p * 256 + s 3 (p + 1) ≤ x) ∧ (P → s 3 p * 256 + s 3 (p + 1) ≤ x → r.1 = s 3 p * 256 + s 3 (p + 1)) ∧ tkF [] s r.2) := by
  obtain ⟨r1, e1, t1, v1, f1⟩ := h.step 255 (by omega)
  obtain ⟨r2, e2, t2, v2, f2⟩ := t1.step 255 p1
  rw [f1.at 3 (by decide) (by simp)] at t2 v2
  unfold Im_takePair
  rw [e1, Option.bind_some, e2, Option.bind_some, lt_ok]
  have f := f1.trans f2
  by_cases hP : P
  · rw [v1 hP b0.2, v2 ⟨hP, b0.2⟩ b1.2, wI_ok (x := s 3 p * 256) (by omega) (by omega), wI_ok (by omega) (by omega)]
    have q := t2.2.2
    by_cases c : x < s 3 p * 256 + s 3 (p + 1)
    · rw [if_pos c, pf_ok]
      refine wp_some ⟨⟨?_, ?_, Or.inr ⟨(ru3 rfl rfl : upm r2.2 52 4 0 52 4 = 0), fun t => by have := t.2; omega⟩⟩, fun _ t => by omega, f.put52 (by decide)⟩
      · show upm r2.2 52 4 0 52 2 = 4
        rw [ru2 (by decide)]; exact t2.1
      · show 0 ≤ upm r2.2 52 4 0 52 3
        rw [ru2 (by decide)]; exact t2.2.1
    · rw [if_neg c]
      exact wp_some ⟨t2.iff ⟨fun t => ⟨t.1.1, by omega⟩, fun t => ⟨⟨t.1, b0.2⟩, b1.2⟩⟩ (by omega), fun _ _ => rfl, f⟩
  · have z : r2.2 52 4 = 0 := by
      rcases t2.2.2 with ⟨_, _, c⟩ | ⟨c, _⟩
      · exact absurd c.1.1 hP
      · exact c
    split
    · rw [pf_ok]
      refine wp_some ⟨⟨?_, ?_, Or.inr ⟨(ru3 rfl rfl : upm r2.2 52 4 0 52 4 = 0), fun t => hP t.1⟩⟩, fun t => absurd t hP, f.put52 (by decide)⟩
      · show upm r2.2 52 4 0 52 2 = 4
        rw [ru2 (by decide)]; exact t2.1
      · show 0 ≤ upm r2.2 52 4 0 52 3
        rw [ru2 (by decide)]; exact t2.2.1
    · exact wp_some ⟨⟨t2.1, t2.2.1, Or.inr ⟨z, fun t => hP t.1⟩⟩, fun t => absurd t hP, f⟩
def ok3 (t : Int → Int) (p : Int) : Prop := ∀ k, 0 ≤ k → k < 3 → t (p + k) ≤ 9
theorem tkT.triple {s : zM} {p : Int} {P : Prop} {a n : Nat} {x : Int} (h : tkT s p P) (p1 : p + 2 < 1600) (x0 : 0 ≤ x) (x1 : x + 3 ≤ (n : Int)) (hn : n < 1000) (ha : a ≠ 52) (ha3 : a ≠ 3) : wp (Im_takeTriple a n x s) (fun r => tkT r (p + 3) (P ∧ ok3 (s 3) p) ∧ (P → ok3 (s 3) p → ∀ k, 0 ≤ k → k < 3 → r a (x + k) = s 3 (p + k)) ∧ tkF [a] s r ∧ ∀ j, j < x ∨ x + 3 ≤ j → r a j = s a j) := by
  unfold Im_takeTriple ok3
  refine wp_for (fun k i m => Im_takeTriple_L2 k a n x i m) (fun i m => tkT m (p + i) (P ∧ ∀ k, 0 ≤ k → k < i → s 3 (p + k) ≤ 9) ∧ (P → (∀ k, 0 ≤ k → k < i → s 3 (p + k) ≤ 9) → ∀ k, 0 ≤ k → k < i → m a (x + k) = s 3 (p + k)) ∧ tkF [a] s m ∧ ∀ j, j < x ∨ x + 3 ≤ j → m a j = s a j) _ 0 3 ?_ ?_ 1000000 0 s (by omega) (by omega) (by omega) ⟨h.iff ⟨fun t => ⟨t, all_0⟩, fun t => t.1⟩ (by omega), fun _ _ => all_0, tkF.refl, fun _ _ => rfl⟩
  · intro k m i1
    show wp (Im_takeTriple_B2 _ _ _ _ _ _) _
    unfold Im_takeTriple_B2
    rw [if_neg (by omega)]
    exact wp_some i1
  · intro k i m q0 q1 ⟨i1, i2, i3, i4⟩ hr
    show wp (Im_takeTriple_B2 _ _ _ _ _ _) _
    unfold Im_takeTriple_B2
    obtain ⟨r1, e1, t1, v1, f1⟩ := i1.step 9 (by omega)
    have m3 : m 3 = s 3 := i3.at 3 (by decide) (by simp; omega)
    rw [m3] at t1 v1
    rw [if_pos q1, e1, Option.bind_some, wI_ok (x := x + i) (by omega) (by omega), wr_ok (by omega) (by omega), wI_ok (x := i + 1) (by omega) (by omega)]
    have ma : r1.2 a = m a := f1.at a ha (by simp)
    refine hr _ ⟨(t1.put ha).iff ?_ (by omega), ?_, (i3.trans (f1.mono (by simp))).put (by simp) ha, fun j hj => ?_⟩
    · rw [all_s q0, and_assoc]
    · intro hP c
      rw [all_s q0] at c ⊢
      refine ⟨fun k k0 k1 => ?_, ?_⟩
      · rw [ru2 (by omega), ma]
        exact i2 hP c.1 k k0 k1
      · rw [ru3 rfl rfl]
        exact v1 ⟨hP, c.1⟩ c.2
    · rw [ru2 (by omega), ma]
      exact i4 j hj
/-- a guest's five bytes -/
def okG (t : Int → Int) (nb p : Int) : Prop := ok3 t p ∧ t (p + 3) ≤ nb ∧ t (p + 4) < slI 1 nb
def vlG (t m1 m2 m3 : Int → Int) (g p : Int) : Prop := (∀ k, 0 ≤ k → k < 3 → m1 (3 * g + k) = t (p + k)) ∧ m2 g = t (p + 3) - 1 ∧ m3 g = t (p + 4)
theorem sl_b {x : Int} (h0 : 0 ≤ x) (h1 : x ≤ 6) : 1 ≤ slI 1 x ∧ slI 1 x ≤ 64 := by
  obtain ⟨k, rfl⟩ : ∃ k : Nat, x = (k : Int) := ⟨x.toNat, by omega⟩
  rw [slI_1 (by omega)]
  have a : 2 ^ k ≤ 2 ^ 6 := Nat.pow_le_pow_right (by decide) (by omega)
  have b : 0 < 2 ^ k := Nat.pow_pos (by decide)
  omega
theorem tkT.guest {s Z : zM} {z : Nat} {p i : Int} {P : Prop} {K : Nat → Nat → zM → Option (Int × zM)} {rec : Nat → Nat → Int → zM → Option (Int × zM)} {Q : Int × zM → Prop} (h : tkT s p P) (hZ : zv s z = Z) (hz : z = 55 ∨ z = 72) (n1 : 0 ≤ Z 0 0 ∧ Z 0 0 ≤ 6) (n2 : 0 ≤ Z 0 1 ∧ Z 0 1 ≤ 8) (i0 : 0 ≤ i) (i1 : i < Z 0 1) (p1 : p + 4 < 1600) (b3 : 0 ≤ s 3 (p + 3) ∧ s 3 (p + 3) ≤ 255)
    (hr : ∀ m, tkT m (p + 5) (P ∧ okG (s 3) (Z 0 0) p) → (P → okG (s 3) (Z 0 0) p → vlG (s 3) (m 17) (m 18) (m 19) i p) → tkF [17, 18, 19] s m → (∀ j, j < 3 * i ∨ 3 * i + 3 ≤ j → m 17 j = s 17 j) → (∀ j, j ≠ i → m 18 j = s 18 j ∧ m 19 j = s 19 j) → wp (rec z 16 (i + 1) m) Q) : wp (Im_read_B103 K rec z 16 i s) Q := by
  have sb := sl_b n1.1 n1.2
  have zs : ∀ {m : zM}, tkF [17, 18, 19] s m → zv m z = Z := fun {m} f => by rw [← hZ]; exact zv_eq fun q _ _ => f.at _ (by omega) (by simp; omega)
  unfold Im_read_B103
  rw [rZ0 hZ, if_pos i1, wI_ok (x := i * 3) (by omega) (by omega), wI_ok (x := i + 1) (by omega) (by omega)]
  refine wp_bm (h.triple (by omega) (by omega) (by omega) (by decide) (by decide) (by decide)) (fun m1 ⟨t1, v1, f1, g1⟩ => ?_)
  have f1' : tkF [17, 18, 19] s m1 := f1.mono (by simp)
  obtain ⟨r2, e2, t2, v2, f2⟩ := t1.step (Z 0 0) (by omega)
  have f2' : tkF [17, 18, 19] s r2.2 := f1'.trans (f2.mono (by simp))
  rw [rZ0 (zs f1'), e2, Option.bind_some, wr_ok i0 (by omega)]
  have f3' : tkF [17, 18, 19] s (upm r2.2 18 i (wI (r2.1 - 1))) := f2'.put (by simp) (by decide)
  obtain ⟨r4, e4, t4, v4, f4⟩ := (t2.put (a := 18) (i := i) (v := wI (r2.1 - 1)) (by decide)).step (slI 1 (Z 0 0) - 1) (by omega)
  rw [rZ0 (zs f3'), wI_ok (x := slI 1 (Z 0 0) - 1) (by omega) (by omega), e4, Option.bind_some, wr_ok i0 (by omega)]
  have x1 : m1 3 = s 3 := f1.at 3 (by decide) (by simp)
  have x2 : r2.2 3 = s 3 := by rw [f2.at 3 (by decide) (by simp), x1]
  have x3 : upm r2.2 18 i (wI (r2.1 - 1)) 3 = s 3 := by rw [upm_ne (by decide), x2]
  rw [x3] at t4 v4
  rw [x1] at t4 v4 v2
  have y1 : ∀ a, a ≠ 52 → r2.2 a = m1 a := fun a ha => f2.at a ha (by simp)
  have y2 : ∀ a, a ≠ 52 → r4.2 a = upm r2.2 18 i (wI (r2.1 - 1)) a := fun a ha => f4.at a ha (by simp)
  have A17 : upm r4.2 19 i r4.1 17 = m1 17 := by rw [upm_ne (by decide), y2 17 (by decide), upm_ne (by decide), y1 17 (by decide)]
  have A18 : upm r4.2 19 i r4.1 18 = sets (m1 18) i (wI (r2.1 - 1)) := by rw [upm_ne (by decide), y2 18 (by decide), upm_eq, y1 18 (by decide)]
  have A19 : upm r4.2 19 i r4.1 19 = sets (m1 19) i r4.1 := by rw [upm_eq, y2 19 (by decide), upm_ne (by decide), y1 19 (by decide)]
  refine hr _ ((t4.put (by decide)).iff ?_ (by omega)) ?_ ((f3'.trans (f4.mono (by simp))).put (by simp) (by decide)) ?_ ?_
  · unfold okG
    constructor
    · intro ⟨⟨⟨a, b⟩, c⟩, d⟩
      exact ⟨a, b, c, by rw [show p + 3 + 1 = p + 4 from by omega] at d; omega⟩
    · intro ⟨a, b, c, d⟩
      exact ⟨⟨⟨a, b⟩, c⟩, by rw [show p + 3 + 1 = p + 4 from by omega]; omega⟩
  · intro hP ⟨a, b, c⟩
    have w2 := v2 ⟨hP, a⟩ b
    have w4 := v4 ⟨⟨hP, a⟩, b⟩ (by rw [show p + 3 + 1 = p + 4 from by omega]; omega)
    rw [show p + 3 + 1 = p + 4 from by omega] at w4
    unfold vlG
    rw [A17, A18, A19, sets_eq, sets_eq, w2, w4, wI_ok (by omega) (by omega)]
    refine ⟨fun k k0 k1 => ?_, rfl, rfl⟩
    rw [Int.mul_comm]
    exact v1 hP a k k0 k1
  · intro j hj
    rw [A17]
    exact g1 j (by omega)
  · intro j hj
    rw [A18, A19, sets_ne hj, sets_ne hj, f1.at 18 (by decide) (by simp), f1.at 19 (by decide) (by simp)]
    exact ⟨rfl, rfl⟩
