/-! the zoo that is read: how a statement changes it -/
def ZA (Z m : zM) (b : Int) : Prop := (m 2 b = Z 0 0 ∧ 0 ≤ Z 0 0 ∧ Z 0 0 ≤ 6) ∧ AR (pI (Z 0 0)) (Z 2) (m 3) (6 * b) 0 23 ∧ AR (pI (Z 0 0)) (Z 3) (m 4) (6 * b) 0 23 ∧ AR (pI (Z 0 0)) (Z 4) (m 5) (6 * b) 0 99 ∧ AR (pI (3 * Z 0 0)) (Z 5) (m 6) (18 * b) 0 9 ∧ ∀ i, 0 ≤ i → i < Z 0 0 → nmR (Z 1 i) (m 17 (6 * b + i))
def ZB (Z m : zM) (b : Int) : Prop := (m 7 b = Z 0 1 ∧ 0 ≤ Z 0 1 ∧ Z 0 1 ≤ 8) ∧ AR (pI (Z 0 1)) (Z 7) (m 9) (8 * b) 0 23 ∧ AR (pI (Z 0 1)) (Z 8) (m 10) (8 * b) 0 23 ∧ AR (pI (Z 0 1)) (Z 9) (m 11) (8 * b) 0 63 ∧ AR (pI (3 * Z 0 1)) (Z 10) (m 8) (24 * b) 0 9 ∧ ∀ g, 0 ≤ g → g < Z 0 1 → nmR (Z 6 g) (m 18 (8 * b + g))
def ZC (Z m : zM) (b : Int) : Prop := (m 12 (5 * b) = Z 0 14 ∧ 0 ≤ Z 0 14 ∧ Z 0 14 ≤ 6) ∧ (m 12 (5 * b + 1) = Z 0 15 ∧ 0 ≤ Z 0 15 ∧ Z 0 15 ≤ 99) ∧ (m 12 (5 * b + 2) = Z 0 16 ∧ 2 ≤ Z 0 16 ∧ Z 0 16 ≤ 9) ∧ (m 12 (5 * b + 3) = Z 0 17 ∧ 0 ≤ Z 0 17 ∧ Z 0 17 ≤ 99) ∧ (m 12 (5 * b + 4) = Z 0 18 ∧ 0 ≤ Z 0 18 ∧ Z 0 18 ≤ 100)
def ZD (Z m : zM) (b : Int) : Prop := FR (Z 11 1) (Z 12) m b 0 false 6 ∧ FR (Z 14 1) (Z 15) m b 1 true 9
theorem ZM_4 {Z m : zM} {b : Int} : ZM Z m b ↔ ZA Z m b ∧ ZB Z m b ∧ ZC Z m b ∧ ZD Z m b := by
  constructor
  · intro ⟨h1, h2, h3, h4, h5, h6, h7, h8, h9, h10, h11, h12, h13, h14⟩
    exact ⟨⟨h1, h3, h4, h5, h6, h11⟩, ⟨h2, h7, h8, h9, h10, h12⟩, h13, h14⟩
  · intro ⟨⟨h1, h3, h4, h5, h6, h11⟩, ⟨h2, h7, h8, h9, h10, h12⟩, h13, h14⟩
    exact ⟨h1, h2, h3, h4, h5, h6, h7, h8, h9, h10, h11, h12, h13, h14⟩
theorem ZA.cong {Z Z' m m' : zM} {b : Int} (h : ZA Z m b) (e0 : Z' 0 0 = Z 0 0) (eZ : ∀ k, 1 ≤ k → k ≤ 5 → Z' k = Z k) (eM : ∀ a, a = 2 ∨ a = 3 ∨ a = 4 ∨ a = 5 ∨ a = 6 ∨ a = 17 → m' a = m a) : ZA Z' m' b := by
  unfold ZA at h ⊢
  rw [e0, eZ 1 (by decide) (by decide), eZ 2 (by decide) (by decide), eZ 3 (by decide) (by decide), eZ 4 (by decide) (by decide), eZ 5 (by decide) (by decide), eM 2 (by simp), eM 3 (by simp), eM 4 (by simp), eM 5 (by simp), eM 6 (by simp), eM 17 (by simp)]
  exact h
theorem ZB.cong {Z Z' m m' : zM} {b : Int} (h : ZB Z m b) (e0 : Z' 0 1 = Z 0 1) (eZ : ∀ k, 6 ≤ k → k ≤ 10 → Z' k = Z k) (eM : ∀ a, a = 7 ∨ a = 8 ∨ a = 9 ∨ a = 10 ∨ a = 11 ∨ a = 18 → m' a = m a) : ZB Z' m' b := by
  unfold ZB at h ⊢
  rw [e0, eZ 6 (by decide) (by decide), eZ 7 (by decide) (by decide), eZ 8 (by decide) (by decide), eZ 9 (by decide) (by decide), eZ 10 (by decide) (by decide), eM 7 (by simp), eM 8 (by simp), eM 9 (by simp), eM 10 (by simp), eM 11 (by simp), eM 18 (by simp)]
  exact h
theorem ZC.cong {Z Z' m m' : zM} {b : Int} (h : ZC Z m b) (e0 : ∀ j, 14 ≤ j → Z' 0 j = Z 0 j) (eM : m' 12 = m 12) : ZC Z' m' b := by
  unfold ZC at h ⊢
  rw [e0 14 (by decide), e0 15 (by decide), e0 16 (by decide), e0 17 (by decide), e0 18 (by decide), eM]
  exact h
theorem FR.cong {l l' : Int} {cd cd' : Int → Int} {m m' : zM} {b w mx : Int} {t : Bool} (h : FR l cd m b w t mx) (el : l' = l) (ec : cd' = cd) (eM : ∀ a, a = 13 ∨ a = 14 ∨ a = 15 ∨ a = 16 → m' a = m a) : FR l' cd' m' b w t mx := by
  unfold FR at h ⊢
  rw [el, ec, eM 13 (by simp), eM 14 (by simp), eM 15 (by simp), eM 16 (by simp)]
  exact h
theorem ZD.cong {Z Z' m m' : zM} {b : Int} (h : ZD Z m b) (eZ : ∀ k, 11 ≤ k → Z' k = Z k) (eM : ∀ a, a = 13 ∨ a = 14 ∨ a = 15 ∨ a = 16 → m' a = m a) : ZD Z' m' b := ⟨h.1.cong (by rw [eZ 11 (by decide)]) (eZ 12 (by decide)) eM, h.2.cong (by rw [eZ 14 (by decide)]) (eZ 15 (by decide)) eM⟩
theorem AR.ext {P P' : Int → Prop} {f g f' g' : Int → Int} {b lo hi : Int} (h : AR P f g b lo hi) (k : ∀ i, P' i → (P i ∧ f' i = f i ∧ g' (b + i) = g (b + i)) ∨ (g' (b + i) = f' i ∧ lo ≤ f' i ∧ f' i ≤ hi)) : AR P' f' g' b lo hi := by
  intro i hi
  rcases k i hi with ⟨a, e1, e2⟩ | a
  · rw [e1, e2]
    exact h i a
  · exact a
theorem AR.push {f g : Int → Int} {b lo hi n v : Int} (h : AR (pI n) f g b lo hi) (v0 : lo ≤ v) (v1 : v ≤ hi) : AR (pI (n + 1)) (sets f n v) (sets g (b + n) v) b lo hi := by
  refine h.ext (fun i ⟨i0, i1⟩ => ?_)
  by_cases e : i = n
  · subst e
    rw [sets_eq, sets_eq]
    exact Or.inr ⟨rfl, v0, v1⟩
  · exact Or.inl ⟨⟨i0, by omega⟩, sets_ne e, sets_ne (by omega)⟩
theorem ZA.push {Z Z' m m' : zM} {b nb x w y s p : Int} (h : ZA Z m b) (hn : Z 0 0 = nb) (n6 : nb < 6) (z0 : Z' 0 0 = nb + 1) (m2 : m' 2 b = nb + 1) (z1 : Z' 1 = sets (Z 1) nb x) (m17 : m' 17 = sets (m 17) (6 * b + nb) w) (hx : nmR x w) (z2 : Z' 2 = sets (Z 2) nb y) (m3 : m' 3 = sets (m 3) (6 * b + nb) y) (y0 : 0 ≤ y) (y1 : y ≤ 23) (z3 : Z' 3 = sets (Z 3) nb s) (m4 : m' 4 = sets (m 4) (6 * b + nb) s) (s0 : 0 ≤ s) (s1 : s ≤ 23) (z4 : Z' 4 = sets (Z 4) nb p) (m5 : m' 5 = sets (m 5) (6 * b + nb) p) (p0 : 0 ≤ p) (p1 : p ≤ 99)
    (z5 : ∀ j, (j < nb * 3 → Z' 5 j = Z 5 j) ∧ (nb * 3 ≤ j → j < nb * 3 + 3 → Z' 5 j = 1)) (m6 : ∀ j, (j < 18 * b + nb * 3 → m' 6 j = m 6 j) ∧ (18 * b + nb * 3 ≤ j → j < 18 * b + nb * 3 + 3 → m' 6 j = 1)) : ZA Z' m' b := by
  obtain ⟨h1, h2, h3, h4, h5, h6⟩ := h
  rw [hn] at h1 h2 h3 h4 h5 h6
  unfold ZA
  rw [z0, z2, m3, z3, m4, z4, m5]
  refine ⟨⟨m2, by omega, by omega⟩, h2.push y0 y1, h3.push s0 s1, h4.push p0 p1, h5.ext (fun i ⟨i0, i1⟩ => ?_), fun i i0 i1 => ?_⟩
  · by_cases c : i < 3 * nb
    · exact Or.inl ⟨⟨i0, c⟩, (z5 i).1 (by omega), (m6 _).1 (by omega)⟩
    · rw [(z5 i).2 (by omega) (by omega), (m6 _).2 (by omega) (by omega)]
      exact Or.inr ⟨rfl, by decide, by decide⟩
  · rw [z1, m17]
    by_cases e : i = nb
    · subst e
      rw [sets_eq, sets_eq]
      exact hx
    · rw [sets_ne e, sets_ne (by omega)]
      exact h6 i i0 (by omega)
theorem ZA.taste {Z Z' m m' : zM} {b x : Int} {v : Int → Int} (h : ZA Z m b) (x0 : 0 ≤ x) (x1 : x < Z 0 0) (z0 : Z' 0 0 = Z 0 0) (eZ : ∀ k, 1 ≤ k → k ≤ 4 → Z' k = Z k) (eM : ∀ a, a = 2 ∨ a = 3 ∨ a = 4 ∨ a = 5 ∨ a = 17 → m' a = m a) (hv : ∀ k, 0 ≤ k → k < 3 → Z' 5 (x * 3 + k) = v k ∧ m' 6 (18 * b + x * 3 + k) = v k ∧ 0 ≤ v k ∧ v k ≤ 9) (ho : ∀ j, j < x * 3 ∨ x * 3 + 3 ≤ j → Z' 5 j = Z 5 j ∧ m' 6 (18 * b + j) = m 6 (18 * b + j)) : ZA Z' m' b := by
  obtain ⟨h1, h2, h3, h4, h5, h6⟩ := h
  unfold ZA
  rw [z0, eZ 1 (by decide) (by decide), eZ 2 (by decide) (by decide), eZ 3 (by decide) (by decide), eZ 4 (by decide) (by decide), eM 2 (by simp), eM 3 (by simp), eM 4 (by simp), eM 5 (by simp), eM 17 (by simp)]
  refine ⟨h1, h2, h3, h4, h5.ext (fun i ⟨i0, i1⟩ => ?_), h6⟩
  by_cases c : i < x * 3 ∨ x * 3 + 3 ≤ i
  · exact Or.inl ⟨⟨i0, i1⟩, (ho i c).1, (ho i c).2⟩
  · have w := hv (i - x * 3) (by omega) (by omega)
    rw [show x * 3 + (i - x * 3) = i from by omega, show 18 * b + x * 3 + (i - x * 3) = 18 * b + i from by omega] at w
    rw [w.1, w.2.1]
    exact Or.inr ⟨rfl, w.2.2⟩
theorem ZB.push {Z Z' m m' : zM} {b ng x w y s : Int} {v : Int → Int} (h : ZB Z m b) (hn : Z 0 1 = ng) (n8 : ng < 8) (z0 : Z' 0 1 = ng + 1) (m7 : m' 7 b = ng + 1) (z6 : Z' 6 = sets (Z 6) ng x) (m18 : m' 18 = sets (m 18) (8 * b + ng) w) (hx : nmR x w) (z7 : Z' 7 = sets (Z 7) ng y) (m9 : m' 9 = sets (m 9) (8 * b + ng) y) (y0 : 0 ≤ y) (y1 : y ≤ 23) (z8 : Z' 8 = sets (Z 8) ng s) (m10 : m' 10 = sets (m 10) (8 * b + ng) s) (s0 : 0 ≤ s) (s1 : s ≤ 23) (z9 : Z' 9 = sets (Z 9) ng 0) (m11 : m' 11 = sets (m 11) (8 * b + ng) 0)
    (hv : ∀ k, 0 ≤ k → k < 3 → Z' 10 (ng * 3 + k) = v k ∧ m' 8 (24 * b + ng * 3 + k) = v k ∧ 0 ≤ v k ∧ v k ≤ 9) (ho : ∀ j, j < ng * 3 → Z' 10 j = Z 10 j ∧ m' 8 (24 * b + j) = m 8 (24 * b + j)) : ZB Z' m' b := by
  obtain ⟨h1, h2, h3, h4, h5, h6⟩ := h
  rw [hn] at h1 h2 h3 h4 h5 h6
  unfold ZB
  rw [z0, z7, m9, z8, m10, z9, m11]
  refine ⟨⟨m7, by omega, by omega⟩, h2.push y0 y1, h3.push s0 s1, h4.push (by decide) (by decide), h5.ext (fun i ⟨i0, i1⟩ => ?_), fun i i0 i1 => ?_⟩
  · by_cases c : i < 3 * ng
    · exact Or.inl ⟨⟨i0, c⟩, (ho i (by omega)).1, (ho i (by omega)).2⟩
    · have w := hv (i - ng * 3) (by omega) (by omega)
      rw [show ng * 3 + (i - ng * 3) = i from by omega, show 24 * b + ng * 3 + (i - ng * 3) = 24 * b + i from by omega] at w
      rw [w.1, w.2.1]
      exact Or.inr ⟨rfl, w.2.2⟩
  · rw [z6, m18]
    by_cases e : i = ng
    · subst e
      rw [sets_eq, sets_eq]
      exact hx
    · rw [sets_ne e, sets_ne (by omega)]
      exact h6 i i0 (by omega)
theorem ZB.fear {Z Z' m m' : zM} {b g v : Int} (h : ZB Z m b) (g0 : 0 ≤ g) (g1 : g < Z 0 1) (z0 : Z' 0 1 = Z 0 1) (eZ : ∀ k, k = 6 ∨ k = 7 ∨ k = 8 ∨ k = 10 → Z' k = Z k) (eM : ∀ a, a = 7 ∨ a = 8 ∨ a = 9 ∨ a = 10 ∨ a = 18 → m' a = m a) (z9 : Z' 9 = sets (Z 9) g v) (m11 : m' 11 = sets (m 11) (8 * b + g) v) (v0 : 0 ≤ v) (v1 : v ≤ 63) : ZB Z' m' b := by
  obtain ⟨h1, h2, h3, h4, h5, h6⟩ := h
  unfold ZB
  rw [z0, eZ 6 (by simp), eZ 7 (by simp), eZ 8 (by simp), eZ 10 (by simp), eM 7 (by simp), eM 8 (by simp), eM 9 (by simp), eM 10 (by simp), eM 18 (by simp), z9, m11]
  exact ⟨h1, h2, h3, h4.set rfl v0 v1, h5, h6⟩
theorem zv_w {m : zM} {z k : Nat} {j v : Int} (h : k ≤ 15 ∧ k ≠ 13) : zv (upm m (z + k) j v) z = upm (zv m z) k j v := by
  funext q
  by_cases e : q = k
  · subst e
    rw [zv_at h, upm_eq, upm_eq, zv_at h]
  · rw [upm_ne e]
    unfold zv
    by_cases c : q ≤ 15 ∧ q ≠ 13
    · rw [if_pos c, if_pos c, upm_ne (by omega)]
    · rw [if_neg c, if_neg c]
theorem zv_w0' {m : zM} {z : Nat} {j v : Int} : zv (upm m z j v) z = upm (zv m z) 0 j v := zv_w (k := 0) (by decide)
/-- the parser between two statements -/
def PZ (c : zX) (zd : Nat) (b i : Int) (mC mM : zM) : Prop := (zd = 55 ∨ zd = 72) ∧ mC 1 3 = (zd : Int) + 1 ∧ mM 0 32 = b ∧ (b = 0 ∨ b = 1) ∧ ZM (zv mC zd) mM b ∧ (0 ≤ mM 0 31 ∧ mM 0 31 ≤ xm c 5 i) ∧ ∀ w, w = 0 ∨ w = 1 → mM 13 (2 * b + w) ≠ -1 → mM 14 (2 * b + w) ≤ mM 0 31
def PS (c : zX) (zd : Nat) (b i : Int) (mC mM : zM) : Prop := PC c i mC ∧ PM c i mM ∧ PZ c zd b i mC mM
def ST (c : zX) (zd : Nat) (b : Int) (mC mM : zM) (a : Int × zM) (r : zM) : Prop := ((a.1 = 1 ∧ ∃ i, PS c zd b i a.2 r) ∨ (a.1 = 0 ∧ FE a.2 r)) ∧ frC zd mC a.2 ∧ frB b mM r
theorem LX.mono {c : zX} (hL : LX c) {i : Int} (i0 : 0 ≤ i) (i1 : i < xl c) : xm c 5 i < xm c 5 (i + 1) := by
  have a := (hL.1.2.2.2.1 i i0 (by omega)).2.2.2.2 i1
  have b := (hL.1.2.2.2.1 (i + 1) (by omega) (by omega)).2.1
  omega
theorem LX.le {c : zX} (hL : LX c) : ∀ (d : Nat) (i : Int), 0 ≤ i → i + (d : Int) ≤ xl c → xm c 5 i + (d : Int) ≤ xm c 5 (i + (d : Int))
  | 0, i, _, _ => by rw [show i + ((0 : Nat) : Int) = i from by omega]; omega
  | d + 1, i, i0, i1 => by
    have a := hL.le d i i0 (by omega)
    have b := hL.mono (i := i + (d : Int)) (by omega) (by omega)
    rw [show i + ((d + 1 : Nat) : Int) = i + (d : Int) + 1 from by omega]
    omega
theorem LX.leI {c : zX} (hL : LX c) {i j : Int} (i0 : 0 ≤ i) (ij : i ≤ j) (j1 : j ≤ xl c) : xm c 5 i + (j - i) ≤ xm c 5 j := by
  have := hL.le (j - i).toNat i i0 (by omega)
  rw [show i + (((j - i).toNat : Nat) : Int) = j from by omega] at this
  omega
/-- the model passes the word that a statement begins with -/
theorem counts_0 {c : zX} {i : Int} {m : zM} (hL : LX c) (h : PM c i m) (hi : i < xl c) : wp (M_counts 0 m) (fun r => r.1 = 1 ∧ PM c (i + 1) r.2 ∧ frH m r.2) := by
  unfold M_counts
  rw [if_pos h.2.2.2.1, if_pos rfl]
  unfold M_counts_b21
  rw [if_pos h.2.2.2.1]
  refine wp_bm (h.step hL hi) (fun b ⟨b1, b2⟩ => ?_)
  unfold M_counts_b32
  rw [if_pos b1.2.2.2.1]
  exact wp_some ⟨rfl, b1, b2⟩
theorem counts_1 {m : zM} (h : m 0 8 = 0) : M_counts 1 m = some (0, fmM m 6 (m 0 4)) := by
  unfold M_counts
  rw [if_pos h, if_neg (by decide), blame_0 h, Option.bind_some]
  unfold M_counts_b21
  rw [if_neg (by rw [fmM_8]; decide)]
  unfold M_counts_b32
  rw [if_neg (by rw [fmM_8]; decide)]
theorem PZ.G {c : zX} {zd : Nat} {b i j : Int} {mC mC' mM mM' : zM} (h : PZ c zd b i mC mM) (k : frK mC mC') (g : frG mM mM') (hj : xm c 5 i ≤ xm c 5 j) : PZ c zd b j mC' mM' := by
  obtain ⟨h1, h2, h3, h4, h5, h6, h7⟩ := h
  have e31 : mM' 0 31 = mM 0 31 := g.2 31 (by decide) (by decide) (by decide) (by decide) (by decide) (by decide) (by decide) (by decide)
  refine ⟨h1, by rw [k.2.1]; exact h2, ?_, h4, by rw [zv_K h1 k]; exact ZM_G h5 g, by rw [e31]; omega, fun w hw => ?_⟩
  · rw [g.2 32 (by decide) (by decide) (by decide) (by decide) (by decide) (by decide) (by decide) (by decide)]; exact h3
  · rw [g.cell (by decide), g.cell (by decide), e31]
    exact h7 w hw
/-- a statement's own word, taken by the class -/
theorem PC.take {c : zX} {i : Int} {m : zM} (h : PC c i m) : PC c (i + 1) (upm m 1 7 (i + 1)) := h.keep (frK.refl.put (by simp)) (ru3 rfl rfl)
/-! triples -/
theorem threes_F {b : Int} : ∀ (d n : Nat) (k : Int) (m : zM), k + (d : Int) = 3 → d < n → 0 ≤ k → 0 < m 0 8 → wp (M_threes_L2 n k m) (fun r => FB b m r ∧ eqO [25] m r) := by
  intro d
  induction d with
  | zero =>
    intro n k m hk hn k0 h
    obtain ⟨n, rfl⟩ : ∃ q, n = q + 1 := ⟨n - 1, by omega⟩
    show wp (M_threes_B2 _ _ _) _
    unfold M_threes_B2
    rw [if_neg (by omega)]
    exact wp_some ⟨FB.refl, eqO.refl⟩
  | succ d ih =>
    intro n k m hk hn k0 h
    obtain ⟨n, rfl⟩ : ∃ q, n = q + 1 := ⟨n - 1, by omega⟩
    show wp (M_threes_B2 _ _ _) _
    unfold M_threes_B2
    rw [if_pos (by omega), number_1 h, Option.bind_some, wr_ok k0 (by omega), wI_ok (by omega) (by omega)]
    refine wp_mono (ih n (k + 1) (upm m 25 k 0) (by omega) (by omega) (by omega) (by rw [ru1 (by decide)]; exact h)) (fun r ⟨r1, r2⟩ => ⟨(FB.refl.putX (by decide) (by decide)).trans r1, (eqO.refl.put (by simp)).trans r2⟩)
def frKa (a : Nat) (m m' : zM) : Prop := eqO [1, a] m m' ∧ m' 1 3 = m 1 3 ∧ m' 1 4 = m 1 4 ∧ m' 1 5 = m 1 5 ∧ m' 1 6 = m 1 6
def frG5 (m m' : zM) : Prop := eqO [0, 25] m m' ∧ ∀ j, j ≠ 3 → j ≠ 4 → j ≠ 5 → j ≠ 6 → j ≠ 7 → j ≠ 8 → j ≠ 9 → j ≠ 12 → m' 0 j = m 0 j
theorem frG5.trans {m m' m2 : zM} (h : frG5 m m') (h2 : frG5 m' m2) : frG5 m m2 := ⟨h.1.trans h2.1, fun j a b c d e f g i => by rw [h2.2 j a b c d e f g i, h.2 j a b c d e f g i]⟩
theorem frG.G5 {m m' : zM} (h : frG m m') : frG5 m m' := ⟨h.1.mono (by simp), h.2⟩
theorem frG5.put {m m' : zM} {i v : Int} (h : frG5 m m') : frG5 m (upm m' 25 i v) := ⟨h.1.put (by simp), fun j a b c d e f g i => by rw [ru1 (by decide)]; exact h.2 j a b c d e f g i⟩
theorem frKa.trans {a : Nat} {m m' m2 : zM} (h : frKa a m m') (h2 : frKa a m' m2) : frKa a m m2 := ⟨h.1.trans h2.1, by rw [h2.2.1, h.2.1], by rw [h2.2.2.1, h.2.2.1], by rw [h2.2.2.2.1, h.2.2.2.1], by rw [h2.2.2.2.2, h.2.2.2.2]⟩
theorem frK.a {a : Nat} {m m' : zM} (h : frK m m') : frKa a m m' := ⟨h.1.mono (by simp), h.2⟩
theorem frKa.put {a : Nat} {m m' : zM} {i v : Int} (h : frKa a m m') (ha : a ≠ 1) : frKa a m (upm m' a i v) := ⟨h.1.put (by simp), by rw [ru1 (fun e => ha e.symm)]; exact h.2.1, by rw [ru1 (fun e => ha e.symm)]; exact h.2.2.1, by rw [ru1 (fun e => ha e.symm)]; exact h.2.2.2.1, by rw [ru1 (fun e => ha e.symm)]; exact h.2.2.2.2⟩
def TJ (c : zX) (i : Int) (a : Nat) (x k : Int) (mC mM : zM) (p : Int × zM) (r : zM) : Prop := ((p.1 = 1 ∧ PC c i p.2 ∧ PM c i r ∧ (∀ j, k ≤ j → j < 3 → p.2 a (x + j) = r 25 j ∧ 0 ≤ r 25 j ∧ r 25 j ≤ 9) ∧ ∀ j, j < k → r 25 j = mM 25 j) ∨ (p.1 = 0 ∧ FE p.2 r)) ∧ frKa a mC p.2 ∧ (∀ j, j < x + k ∨ x + 3 ≤ j → p.2 a j = mC a j) ∧ frG5 mM r
theorem triple_L {c : zX} {a nn : Nat} {x : Int} (hL : LX c) (ha : 55 ≤ a) (x0 : 0 ≤ x) (x1 : x + 3 ≤ (nn : Int)) (hn : nn < 1000) : ∀ (d n n' : Nat) (k i : Int) (mC mM : zM), k + (d : Int) = 3 → 0 ≤ k → d < n → d < n' → PC c i mC → PM c i mM → wp (Pa_triple_L2 n a nn x k mC) (fun p => wp (M_threes_L2 n' k mM) (fun r => TJ c (i + (d : Int)) a x k mC mM p r)) := by
  intro d
  induction d with
  | zero =>
    intro n n' k i mC mM hk k0 hn hn' h hM
    obtain ⟨n, rfl⟩ : ∃ q, n = q + 1 := ⟨n - 1, by omega⟩
    obtain ⟨n', rfl⟩ : ∃ q, n' = q + 1 := ⟨n' - 1, by omega⟩
    show wp (Pa_triple_B2 _ _ _ _ _ _) (fun p => wp (M_threes_B2 _ _ _) _)
    unfold Pa_triple_B2 M_threes_B2
    rw [if_neg (by omega), if_neg (by omega), show i + ((0 : Nat) : Int) = i from by omega]
    exact wp_some (wp_some ⟨Or.inl ⟨rfl, h, hM, fun j j0 j1 => by omega, fun _ _ => rfl⟩, frK.refl.a, fun _ _ => rfl, frG.refl.G5⟩)
  | succ d ih =>
    intro n n' k i mC mM hk k0 hn hn' h hM
    obtain ⟨n, rfl⟩ : ∃ q, n = q + 1 := ⟨n - 1, by omega⟩
    obtain ⟨n', rfl⟩ : ∃ q, n' = q + 1 := ⟨n' - 1, by omega⟩
    show wp (Pa_triple_B2 _ _ _ _ _ _) (fun p => wp (M_threes_B2 _ _ _) _)
    unfold Pa_triple_B2 M_threes_B2
    rw [if_pos (by omega), if_pos (by omega)]
    refine wp_jb (num_J (lo := 0) (hi := 9) hL h hM) (fun p r ⟨w, f, g⟩ => ?_)
    rcases w with ⟨w1, w2, w3, w4, w5, w6⟩ | ⟨w1, w2, w3, w4⟩
    · rw [if_neg (by omega), wI_ok (x := x + k) (by omega) (by omega), wr_ok (by omega) (by omega), wI_ok (x := k + 1) (by omega) (by omega), wr_ok k0 (by omega), w4]
      have h' : PC c (i + 1) (upm p.2 a (x + k) r.1) := ⟨by rw [upm_ne (by omega), upm_ne (by omega), upm_ne (by omega), upm_ne (by omega), upm_ne (by omega)]; exact w2.1, by rw [ru1 (by omega)]; exact w2.2⟩
      have hM' : PM c (i + 1) (upm r.2 25 k r.1) := w3.keep (upm_ne (by decide)) (fun j _ => ru1 (by decide))
      refine wp_mono (ih n n' (k + 1) (i + 1) _ _ (by omega) (by omega) (by omega) (by omega) h' hM') (fun p' hp' => wp_mono hp' (fun r' ⟨y, y2, y3, y4⟩ => ?_))
      rw [show i + 1 + (d : Int) = i + ((d + 1 : Nat) : Int) from by omega] at y
      have ea : p.2 a = mC a := f.cell (by omega)
      refine ⟨?_, (f.a.put (by omega)).trans y2, fun j hj => ?_, g.G5.put.trans y4⟩
      · rcases y with ⟨z1, z2, z3, z4, y5⟩ | z
        · refine Or.inl ⟨z1, z2, z3, fun j j0 j1 => ?_, fun j hj => by rw [y5 j (by omega), ru2 (by omega), g.cell (by decide)]⟩
          by_cases e : j = k
          · rw [e, y3 _ (Or.inl (by omega)), y5 k (by omega), ru3 rfl rfl, ru3 rfl rfl]
            exact ⟨rfl, w5, w6⟩
          · exact z4 j (by omega) j1
        · exact Or.inr z
      · rw [y3 j (by omega), ru2 (by omega), ea]
    · rw [if_pos w1]
      refine wp_some ?_
      rw [wr_ok k0 (by omega), wI_ok (x := k + 1) (by omega) (by omega)]
      refine wp_mono (threes_F (b := 0) d n' (k + 1) (upm r.2 25 k r.1) (by omega) (by omega) (by omega) (by rw [ru1 (by decide)]; exact w4)) (fun r' ⟨y1, y2⟩ => ?_)
      have e0 : r' 0 = r.2 0 := by rw [y2 0 (by simp), upm_ne (by decide)]
      refine ⟨Or.inr ⟨rfl, ?_, ?_, ?_⟩, f.a, fun j _ => by rw [f.cell (by omega)], ?_⟩
      · rw [e0]; exact w2
      · rw [e0]; exact w3
      · rw [e0]; exact w4
      · exact g.G5.put.trans ⟨y2.mono (by simp), fun j _ _ _ _ _ _ _ _ => by rw [y2 0 (by simp)]⟩
