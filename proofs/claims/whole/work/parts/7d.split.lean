/-! the class splits the text; the model reads the same tokens -/
def aN (c : Int) : Prop := bL c = true ∨ bD c = true
def GL (t : Int → Int) (a : Int) : Prop := 0 < a ∧ aN (t a) ∧ aN (t (a - 1))
theorem TC.gl {t : Int → Int} {N a kd bad val e : Int} {g g' : Prop} (h : TC t N a g kd bad val e) (hg : a < N → aN (t a) → (g ↔ g')) : TC t N a g' kd bad val e := by
  rcases h with h | h | ⟨h1, h2, h3, h4⟩ | ⟨h1, h2, h3, h4⟩ | ⟨h1, h2, h3, h4⟩
  · exact Or.inl h
  · exact Or.inr (Or.inl h)
  · exact Or.inr (Or.inr (Or.inl ⟨h1, h2, (hg h1 h2).mp h3, h4⟩))
  · exact Or.inr (Or.inr (Or.inr (Or.inl ⟨h1, h2, fun w => h3 ((hg h1 (Or.inl h2)).mpr w), h4⟩)))
  · exact Or.inr (Or.inr (Or.inr (Or.inr ⟨h1, h2, fun w => h3 ((hg h1 (Or.inr h2)).mpr w), h4⟩)))
theorem Rn.cong {f : Int → Bool} {t t' : Int → Int} {N p q : Int} (h : Rn f t N p q) (p0 : 0 ≤ p) (e : ∀ j, 0 ≤ j → j < N → t' j = t j) : Rn f t' N p q := by
  obtain ⟨h1, h2, h3, h4⟩ := h
  refine ⟨h1, h2, fun j j0 j1 => by rw [e j (by omega) (by omega)]; exact h3 j j0 j1, ?_⟩
  by_cases c : q = N
  · exact Or.inl c
  · rcases h4 with w | w
    · exact Or.inl w
    · exact Or.inr (by rw [e q (by omega) (by omega)]; exact w)
theorem hcv_c {t t' : Int → Int} {a : Int} : ∀ k : Nat, (∀ j, a ≤ j → j < a + (k : Int) → t' j = t j) → hcv t' a k = hcv t a k
  | 0, _ => rfl
  | k + 1, h => by
    unfold hcv
    rw [hcv_c k (fun j j0 j1 => h j j0 (by omega)), h _ (by omega) (by omega)]
theorem nuv_c {t t' : Int → Int} {a : Int} : ∀ k : Nat, (∀ j, a ≤ j → j < a + (k : Int) → t' j = t j) → nuv t' a k = nuv t a k
  | 0, _ => rfl
  | k + 1, h => by
    unfold nuv
    rw [nuv_c k (fun j j0 j1 => h j j0 (by omega)), h _ (by omega) (by omega)]
theorem TC.cong {t t' : Int → Int} {N a kd bad val e : Int} {g : Prop} (h : TC t N a g kd bad val e) (a0 : 0 ≤ a) (c : ∀ j, 0 ≤ j → j < N → t' j = t j) : TC t' N a g kd bad val e := by
  rcases h with h | ⟨h1, h2, h3, h4, h5⟩ | ⟨h1, h2, h3, h4⟩ | ⟨h1, h2, h3, q, hq, h4⟩ | ⟨h1, h2, h3, q, hq, h4⟩
  · exact Or.inl h
  · have w := c a a0 h1
    exact Or.inr (Or.inl ⟨h1, by rw [w]; exact h2, by rw [w]; exact h3, by rw [w]; exact h4, h5⟩)
  · have w := c a a0 h1
    exact Or.inr (Or.inr (Or.inl ⟨h1, by rw [w]; exact h2, h3, h4⟩))
  · have w := c a a0 h1
    have hq1 := hq.1
    have hq2 := hq.2.1
    refine Or.inr (Or.inr (Or.inr (Or.inl ⟨h1, by rw [w]; exact h2, h3, q, hq.cong a0 c, ?_⟩)))
    rw [hcv_c (t := t) (t' := t') (q - a).toNat (fun j j0 j1 => c j (by omega) (by omega))]
    exact h4
  · have w := c a a0 h1
    have hq1 := hq.1
    have hq2 := hq.2.1
    refine Or.inr (Or.inr (Or.inr (Or.inr ⟨h1, by rw [w]; exact h2, h3, q, hq.cong a0 c, ?_⟩)))
    rw [nuv_c (t := t) (t' := t') (q - a).toNat (fun j j0 j1 => c j (by omega) (by omega))]
    exact h4
theorem TC.bad {t : Int → Int} {N a kd bad bad' val e : Int} {g : Prop} (h : TC t N a g kd bad val e) (hk : kd ≠ 257) : TC t N a g kd bad' val e := by
  rcases h with h | h | ⟨h1, h2, h3, h4, _⟩ | ⟨h1, h2, h3, q, hq, h4⟩ | ⟨h1, h2, h3, q, hq, h4⟩
  · exact Or.inl h
  · exact Or.inr (Or.inl h)
  · exact absurd h4 hk
  · rcases h4 with ⟨_, w, _⟩ | w
    · exact absurd w hk
    · exact Or.inr (Or.inr (Or.inr (Or.inl ⟨h1, h2, h3, q, hq, Or.inr w⟩)))
  · rcases h4 with ⟨_, w, _⟩ | w
    · exact absurd w hk
    · exact Or.inr (Or.inr (Or.inr (Or.inr ⟨h1, h2, h3, q, hq, Or.inr w⟩)))
/-- what comes behind a good token -/
theorem TC.next {t : Int → Int} {N a kd bad val e : Int} {g : Prop} (h : TC t N a g kd bad val e) (h6 : kd ≠ 256) (h7 : kd ≠ 257) (by1 : ∀ j, 0 ≤ j → j < N → 0 ≤ t j ∧ t j ≤ 255) (a0 : 0 ≤ a) : a < e ∧ e ≤ N ∧ ((kd < 258 ∧ ¬ aN (t (e - 1))) ∨ (258 ≤ kd ∧ aN (t (e - 1)))) := by
  rcases h with ⟨_, h⟩ | ⟨h1, h2, h3, h4, h5⟩ | ⟨h1, h2, h3, h4, _⟩ | ⟨h1, h2, h3, q, hq, h4⟩ | ⟨h1, h2, h3, q, hq, h4⟩
  · exact absurd h h6
  · have b := by1 a a0 h1
    refine ⟨by omega, by omega, Or.inl ⟨by omega, ?_⟩⟩
    rw [h5, show a + 1 - 1 = a from by omega]
    intro w
    rcases w with w | w
    · rw [h2] at w; cases w
    · rw [h3] at w; cases w
  · exact absurd h4 h7
  · rcases h4 with ⟨_, w, _⟩ | ⟨w1, w2, w3, w4⟩
    · exact absurd w h7
    · have nz := hq.nz h1 h2
      have hq2 := hq.2.1
      refine ⟨by omega, by omega, Or.inr ⟨?_, Or.inl (hq.in (by omega) (by omega)).2⟩⟩
      rcases w4 with ⟨k, k1, k2, k3⟩ | ⟨k2, _⟩ <;> omega
  · rcases h4 with ⟨_, w, _⟩ | ⟨w1, w2, w3, w4⟩
    · exact absurd w h7
    · have nz := hq.nz h1 h2
      have hq2 := hq.2.1
      exact ⟨by omega, by omega, Or.inr ⟨by omega, Or.inr (hq.in (by omega) (by omega)).2⟩⟩
/-- one entry of the class's rows -/
def EN (t : Int → Int) (N : Int) (m : zM) (pos : Int → Int) (j : Int) : Prop := Rn bB t N (pos j) (m 5 j) ∧ TC t N (m 5 j) (GL t (m 5 j)) (m 4 j) (m 2 6) (m 6 j) (pos (j + 1))
theorem split_L {t : Int → Int} {N : Int} (N0 : N ≤ 1600) (by1 : ∀ j, 0 ≤ j → j < N → 0 ≤ t j ∧ t j ≤ 255) : ∀ (n : Nat) (i p x1 : Int) (m : zM) (pos : Int → Int), N - p < (n : Int) → 0 ≤ i → i ≤ p → p ≤ N → m 3 = t → m 2 1 = N → m 2 5 = i → m 2 8 = p → RO (m 7) → pos i = p → pos 0 = 0 →
    ((x1 = p ∧ 0 < p ∧ aN (t (p - 1))) ∨ (x1 = -1 ∧ (p = 0 ∨ ¬ aN (t (p - 1))))) → (∀ j, 0 ≤ j → j < i → m 4 j ≠ 256 ∧ m 4 j ≠ 257 ∧ 0 ≤ pos j ∧ m 5 j < pos (j + 1) ∧ EN t N m pos j) →
    wp (Ta_split_L14 n x1 i m) (fun m' => eqO [2, 4, 5, 6] m m' ∧ m' 2 1 = N ∧ ∃ (pos' : Int → Int) (last : Int), pos' 0 = 0 ∧ 0 ≤ last ∧ last ≤ 1600 ∧ (m' 4 last = 256 ∨ m' 4 last = 257) ∧ 0 ≤ pos' last ∧ EN t N m' pos' last ∧ ∀ j, 0 ≤ j → j < last → m' 4 j ≠ 256 ∧ m' 4 j ≠ 257 ∧ 0 ≤ pos' j ∧ m' 5 j < pos' (j + 1) ∧ EN t N m' pos' j) := by
  intro n
  induction n with
  | zero => intro i p x1 m pos hn; omega
  | succ n ih =>
    intro i p x1 m pos hn i0 ip pN m3 m21 m25 m28 ho hp p0 hx hE
    obtain ⟨a, ha⟩ := Rn.ex (f := bB) (t := t) (N := N) (p := p) pN
    have a1 := ha.1
    have a2 := ha.2.1
    show wp (Ta_split_B14 _ _ _ _) _
    unfold Ta_split_B14
    rw [if_neg (show ¬ 1600 < i by omega), skip_C (q := a) (by rw [m3, m21, m28]; exact ha) (by omega) (by omega), Option.bind_some, ru3 rfl rfl]
    have S3 : upm m 2 8 a 3 = t := by rw [upm_ne (by decide), m3]
    have S21 : upm m 2 8 a 2 1 = N := by rw [ru2 (by decide), m21]
    have S25 : upm m 2 8 a 2 5 = i := by rw [ru2 (by decide), m25]
    have S28 : upm m 2 8 a 2 8 = a := ru3 rfl rfl
    have S7 : upm m 2 8 a 7 = m 7 := upm_ne (by decide)
    have S4 : ∀ j, upm m 2 8 a 4 j = m 4 j ∧ upm m 2 8 a 5 j = m 5 j ∧ upm m 2 8 a 6 j = m 6 j := fun j => ⟨ru1 (by decide), ru1 (by decide), ru1 (by decide)⟩
    have SE : eqO [2, 4, 5, 6] m (upm m 2 8 a) := eqO.refl.put (by simp)
    generalize upm m 2 8 a = s at *
    have main : ∀ g : Int, (g ≠ 0 ↔ a = x1) → wp (Ta_split_b39 (Ta_split_L14 n) i g s) (fun m' => eqO [2, 4, 5, 6] m m' ∧ m' 2 1 = N ∧ ∃ (pos' : Int → Int) (last : Int), pos' 0 = 0 ∧ 0 ≤ last ∧ last ≤ 1600 ∧ (m' 4 last = 256 ∨ m' 4 last = 257) ∧ 0 ≤ pos' last ∧ EN t N m' pos' last ∧ ∀ j, 0 ≤ j → j < last → m' 4 j ≠ 256 ∧ m' 4 j ≠ 257 ∧ 0 ≤ pos' j ∧ m' 5 j < pos' (j + 1) ∧ EN t N m' pos' j) := by
      intro g hg
      unfold Ta_split_b39
      refine wp_bm (scan_C (g := g) S25 i0 (by omega) S28 (by omega) (by rw [S21]; exact a2) (by rw [S21]; exact N0) (by rw [S7]; exact ho)) (fun r ⟨f1, f2, ⟨f3, f4⟩, ⟨f5, f6⟩, f7⟩ => ?_)
      rw [S3, S21] at f7
      rw [S21] at f3
      have tc : TC t N a (GL t a) r.1 (r.2 2 6) (r.2 6 i) (r.2 2 8) := by
        refine f7.gl (fun c1 c2 => hg.trans ?_)
        unfold GL
        by_cases e : a = p
        · subst e
          constructor
          · intro w
            rcases hx with ⟨_, x2, x3⟩ | ⟨x2, _⟩
            · exact ⟨x2, c2, x3⟩
            · omega
          · intro ⟨w1, w2, w3⟩
            rcases hx with ⟨x2, _⟩ | ⟨_, x2⟩
            · exact x2.symm
            · rcases x2 with x2 | x2
              · omega
              · exact absurd w3 x2
        · constructor
          · intro w
            rcases hx with ⟨x2, _⟩ | ⟨x2, _⟩ <;> omega
          · intro ⟨w1, w2, w3⟩
            exfalso
            have b := (ha.in (j := a - 1) (by omega) (by omega)).2
            rw [bB_t] at b
            rcases w3 with w | w
            · rw [bL_t] at w; omega
            · rw [bD_t] at w; omega
      rw [pf_ok, wI_ok (x := i + 1) (by omega) (by omega)]
      have posE : ∀ j, j ≤ i → (fun k => if k = i + 1 then r.2 2 8 else pos k) j = pos j := fun j hj => if_neg (by omega)
      have ent : ∀ u : zM, (∀ j, u 4 j = r.2 4 j ∧ u 5 j = r.2 5 j ∧ u 6 j = r.2 6 j) → u 2 6 = r.2 2 6 → EN t N u (fun k => if k = i + 1 then r.2 2 8 else pos k) i ∧ ∀ j, 0 ≤ j → j < i → u 4 j ≠ 256 ∧ u 4 j ≠ 257 ∧ 0 ≤ (fun k => if k = i + 1 then r.2 2 8 else pos k) j ∧ u 5 j < (fun k => if k = i + 1 then r.2 2 8 else pos k) (j + 1) ∧ EN t N u (fun k => if k = i + 1 then r.2 2 8 else pos k) j := by
        intro u u1 u2
        refine ⟨?_, fun j j0 j1 => ?_⟩
        · unfold EN
          rw [posE i (by omega), (u1 i).1, (u1 i).2.1, (u1 i).2.2, u2, f5, f6, hp]
          refine ⟨ha, ?_⟩
          show TC _ _ _ _ _ _ _ (if i + 1 = i + 1 then r.2 2 8 else pos (i + 1))
          rw [if_pos rfl]
          exact tc
        · obtain ⟨w1, w2, w3, w4, w5, w6⟩ := hE j j0 j1
          have g1 := f2 j (by omega)
          have g2 := S4 j
          unfold EN
          rw [posE j (by omega), posE (j + 1) (by omega), (u1 j).1, (u1 j).2.1, (u1 j).2.2, g1.1, g1.2.1, g1.2.2, g2.1, g2.2.1, g2.2.2]
          exact ⟨w1, w2, w3, w4, w5, w6.bad w2⟩
      have E' : eqO [2, 4, 5, 6] m (upm r.2 2 5 (i + 1)) := (SE.trans f1).put (by simp)
      have stop : (r.1 = 256 ∨ r.1 = 257) → wp (some (upm r.2 2 5 (i + 1))) (fun m' => eqO [2, 4, 5, 6] m m' ∧ m' 2 1 = N ∧ ∃ (pos' : Int → Int) (last : Int), pos' 0 = 0 ∧ 0 ≤ last ∧ last ≤ 1600 ∧ (m' 4 last = 256 ∨ m' 4 last = 257) ∧ 0 ≤ pos' last ∧ EN t N m' pos' last ∧ ∀ j, 0 ≤ j → j < last → m' 4 j ≠ 256 ∧ m' 4 j ≠ 257 ∧ 0 ≤ pos' j ∧ m' 5 j < pos' (j + 1) ∧ EN t N m' pos' j) := by
        intro hk
        obtain ⟨e1, e2⟩ := ent (upm r.2 2 5 (i + 1)) (fun j => ⟨ru1 (by decide), ru1 (by decide), ru1 (by decide)⟩) (ru2 (by decide))
        refine wp_some ⟨E', by rw [ru2 (by decide)]; exact f3, (fun k => if k = i + 1 then r.2 2 8 else pos k), i, ?_, i0, by omega, ?_, ?_, e1, e2⟩
        · rw [posE 0 i0]; exact p0
        · rw [ru1 (by decide), f5]; exact hk
        · rw [posE i (by omega), hp]; omega
      by_cases c6 : r.1 = 256
      · rw [if_pos c6]
        exact stop (Or.inl c6)
      · rw [if_neg c6]
        by_cases c7 : r.1 = 257
        · rw [if_pos c7]
          exact stop (Or.inr c7)
        · rw [if_neg c7]
          obtain ⟨n1, n2, n3⟩ := tc.next c6 c7 by1 (by omega)
          have more : ∀ x', ((x' = r.2 2 8 ∧ 0 < r.2 2 8 ∧ aN (t (r.2 2 8 - 1))) ∨ (x' = -1 ∧ (r.2 2 8 = 0 ∨ ¬ aN (t (r.2 2 8 - 1))))) → wp (Ta_split_L14 n x' (i + 1) (upm r.2 2 5 (i + 1))) (fun m' => eqO [2, 4, 5, 6] m m' ∧ m' 2 1 = N ∧ ∃ (pos' : Int → Int) (last : Int), pos' 0 = 0 ∧ 0 ≤ last ∧ last ≤ 1600 ∧ (m' 4 last = 256 ∨ m' 4 last = 257) ∧ 0 ≤ pos' last ∧ EN t N m' pos' last ∧ ∀ j, 0 ≤ j → j < last → m' 4 j ≠ 256 ∧ m' 4 j ≠ 257 ∧ 0 ≤ pos' j ∧ m' 5 j < pos' (j + 1) ∧ EN t N m' pos' j) := by
            intro x' hx'
            obtain ⟨e1, e2⟩ := ent (upm r.2 2 5 (i + 1)) (fun j => ⟨ru1 (by decide), ru1 (by decide), ru1 (by decide)⟩) (ru2 (by decide))
            refine wp_mono (ih (i + 1) (r.2 2 8) x' (upm r.2 2 5 (i + 1)) (fun k => if k = i + 1 then r.2 2 8 else pos k) (by omega) (by omega) (by omega) n2 ?_ ?_ (ru3 rfl rfl) (ru2 (by decide)) ?_ (if_pos rfl) (by rw [if_neg (show ¬ (0 : Int) = i + 1 by omega)]; exact p0) hx' (fun j j0 j1 => ?_)) (fun m' ⟨k1, k2⟩ => ⟨E'.trans k1, k2⟩)
            · rw [upm_ne (by decide), f1 3 (by simp)]; exact S3
            · rw [ru2 (by decide)]; exact f3
            · rw [upm_ne (by decide), f1 7 (by simp), S7]; exact ho
            · by_cases c : j = i
              · subst c
                refine ⟨by rw [ru1 (by decide), f5]; exact c6, by rw [ru1 (by decide), f5]; exact c7, by rw [if_neg (show ¬ j = j + 1 by omega), hp]; omega, ?_, e1⟩
                rw [ru1 (by decide), f6]
                show a < (if j + 1 = j + 1 then r.2 2 8 else pos (j + 1))
                rw [if_pos rfl]
                exact n1
              · exact e2 j j0 (by omega)
          by_cases c8 : r.1 < 258
          · rw [if_pos c8]
            refine more (-1) (Or.inr ⟨rfl, Or.inr ?_⟩)
            rcases n3 with ⟨_, w⟩ | ⟨w, _⟩
            · exact w
            · omega
          · rw [if_neg c8, ru2 (by decide)]
            refine more (r.2 2 8) (Or.inl ⟨rfl, by omega, ?_⟩)
            rcases n3 with ⟨w, _⟩ | ⟨_, w⟩
            · omega
            · exact w
    by_cases c : a = x1
    · rw [if_pos c]
      exact main 1 ⟨fun _ => c, fun _ => by decide⟩
    · rw [if_neg c]
      exact main 0 ⟨fun w => absurd rfl w, fun w => absurd w c⟩
/-- the model reads, token by token, what the class has in its rows -/
def TR (m0 : zM) (i : Int) (m : zM) : Prop := TK (m0 5 i) (m0 4 i) (m0 2 6) (m0 6 i) m
def LEX (m0 : zM) (t : Int → Int) (N : Int) (pos : Int → Int) (last : Int) : Prop := pos 0 = 0 ∧ (0 ≤ last ∧ last ≤ 1600 ∧ (m0 4 last = 256 ∨ m0 4 last = 257)) ∧ (∀ i, 0 ≤ i → i < last → m0 4 i ≠ 256 ∧ m0 4 i ≠ 257) ∧ (∀ i, 0 ≤ i → i ≤ last → 0 ≤ pos i ∧ pos i ≤ m0 5 i ∧ m0 5 i ≤ N ∧ Rn bB t N (pos i) (m0 5 i) ∧ (i < last → m0 5 i < pos (i + 1))) ∧ ∀ i, 0 ≤ i → i ≤ last → ∀ m, m 1 = t → m 0 2 = N → m 0 5 = pos i → wp (M_ahead m) (fun m' => frH m m' ∧ TR m0 i m' ∧ (i < last → m' 0 5 = pos (i + 1)))
theorem TC.fin {t : Int → Int} {N a kd bad val e : Int} {g : Prop} (h : TC t N a g kd bad val e) (by1 : ∀ j, 0 ≤ j → j < N → 0 ≤ t j ∧ t j ≤ 255) (a0 : 0 ≤ a) : kd = 256 ↔ a = N := by
  rcases h with ⟨h1, h2⟩ | ⟨h1, h2, h3, h4, h5⟩ | ⟨h1, h2, h3, h4, _⟩ | ⟨h1, h2, h3, q, hq, h4⟩ | ⟨h1, h2, h3, q, hq, h4⟩
  · exact ⟨fun _ => h1, fun _ => h2⟩
  · have b := by1 a a0 h1
    exact ⟨fun w => by omega, fun w => by omega⟩
  · exact ⟨fun w => by omega, fun w => by omega⟩
  · refine ⟨fun w => ?_, fun w => by omega⟩
    rcases h4 with ⟨_, w2, _⟩ | ⟨_, _, _, w4⟩
    · omega
    · rcases w4 with ⟨k, k1, k2, k3⟩ | ⟨k2, _⟩ <;> omega
  · refine ⟨fun w => ?_, fun w => by omega⟩
    rcases h4 with ⟨_, w2, _⟩ | ⟨_, _, _, w4⟩ <;> omega
theorem wp_split {m : zM} {t : Int → Int} {N : Int} (N0 : 0 ≤ N) (N1 : N ≤ 1600) (hN : m 2 1 = N) (by1 : ∀ j, 0 ≤ j → j < N → 0 ≤ m 3 j ∧ m 3 j ≤ 255) (ho : RO (m 7)) (ht : ∀ j, 0 ≤ j → j < N → t j = m 3 j) : wp (Ta_split m) (fun m' => eqO [2, 4, 5, 6] m m' ∧ m' 2 1 = N ∧ ∃ (pos : Int → Int) (last : Int), LEX m' t N pos last ∧ ∀ i, 0 ≤ i → i ≤ last → (m' 4 i = 256 ↔ m' 5 i = N)) := by
  unfold Ta_split
  rw [pf_ok, pf_ok]
  have E0 : eqO [2, 4, 5, 6] m (upm (upm m 2 8 0) 2 5 0) := (eqO.refl.put (by simp)).put (by simp)
  refine wp_mono (split_L (t := m 3) (N := N) N1 by1 1000000 0 0 (-1) (upm (upm m 2 8 0) 2 5 0) (fun _ => 0) (by omega) (by omega) (by omega) N0 (E0 3 (by simp)) (by rw [ru2 (by decide), ru2 (by decide)]; exact hN) (ru3 rfl rfl) (by rw [ru2 (by decide), ru3 rfl rfl]) (by rw [E0 7 (by simp)]; exact ho) rfl rfl (Or.inr ⟨rfl, Or.inl rfl⟩) (fun j j0 j1 => by omega)) (fun m' ⟨k1, k2, pos, last, p0, l0, l1, l2, l3, l4, l5⟩ => ⟨E0.trans k1, k2, pos, last, ⟨p0, ⟨l0, l1, l2⟩, fun i i0 i1 => ⟨(l5 i i0 i1).1, (l5 i i0 i1).2.1⟩, ?_, ?_⟩, ?_⟩)
  · intro i i0 i1
    by_cases c : i = last
    · subst c
      exact ⟨l3, l4.1.1, l4.1.2.1, l4.1.cong l3 ht, fun w => by omega⟩
    · obtain ⟨_, _, w3, w4, w5⟩ := l5 i i0 (by omega)
      exact ⟨w3, w5.1.1, w5.1.2.1, w5.1.cong w3 ht, fun _ => w4⟩
  · intro i i0 i1 u u1 u2 u5
    have en : 0 ≤ pos i ∧ EN (m 3) N m' pos i := by
      by_cases c : i = last
      · subst c; exact ⟨l3, l4⟩
      · obtain ⟨_, _, w3, w4, w5⟩ := l5 i i0 (by omega)
        exact ⟨w3, w5⟩
    obtain ⟨q0, en1, en2⟩ := en
    have a0 : 0 ≤ m' 5 i := by have := en1.1; omega
    have aN' := en1.2.1
    have tb : ∀ j, 0 ≤ j → j < N → 0 ≤ u 1 j ∧ u 1 j ≤ 255 := fun j j0 j1 => by rw [u1, ht j j0 j1]; exact by1 j j0 j1
    have al : ∀ j, 0 ≤ j → j < N → (aN (u 1 j) ↔ aN (m 3 j)) := fun j j0 j1 => by rw [u1, ht j j0 j1]
    refine wp_mono (ahead_M (m := u) (N := N) (gl := GL (m 3) (m' 5 i)) u2 N1 (by omega) (by rw [u1, u5]; exact en1.cong q0 ht) tb (by rw [u1]; exact en2.cong a0 ht) (fun c1 c2 => ?_) (fun c1 c2 => (al _ a0 c1).mpr c2.2.1)) (fun w ⟨x1, x2, x3⟩ => ⟨x1, x2, fun c => x3 (l5 i i0 c).1 (l5 i i0 c).2.1⟩)
    constructor
    · intro ⟨w1, w2, w3⟩
      exact ⟨w1, (al _ (by omega) (by omega)).mpr w3⟩
    · intro ⟨w1, w2⟩
      exact ⟨w1, (al _ a0 c1).mp c2, (al _ (by omega) (by omega)).mp w2⟩
  · intro i i0 i1
    have en : 0 ≤ pos i ∧ EN (m 3) N m' pos i := by
      by_cases c : i = last
      · subst c; exact ⟨l3, l4⟩
      · obtain ⟨_, _, w3, w4, w5⟩ := l5 i i0 (by omega)
        exact ⟨w3, w5⟩
    exact en.2.2.fin by1 (by have := en.2.1.1; omega)
