/-! how much a beast likes a guest, whether it may ask: the same numbers in both -/
theorem rS1 {m S : zM} {o : Nat} {j : Int} (hS : sv m o = S) (h0 : 0 ≤ j) (h1 : j < 24) : m (o + 1) j = S 1 j := by rw [← hS, sv_1 h0 h1]
theorem rS2 {m S : zM} {o : Nat} {j : Int} (hS : sv m o = S) (h0 : 0 ≤ j) (h1 : j < 8) : m (o + 2) j = S 2 j := by rw [← hS, sv_2 h0 h1]
theorem rS3 {m S : zM} {o : Nat} {j : Int} (hS : sv m o = S) (h0 : 0 ≤ j) (h1 : j < 8) : m (o + 3) j = S 3 j := by rw [← hS, sv_3 h0 h1]
theorem rS4 {m S : zM} {o : Nat} {j : Int} (hS : sv m o = S) (h0 : 0 ≤ j) (h1 : j < 18) : m (o + 4) j = S 4 j := by rw [← hS, sv_4 h0 h1]
theorem rS5 {m S : zM} {o : Nat} {j : Int} (hS : sv m o = S) (h0 : 0 ≤ j) (h1 : j < 48) : m (o + 5) j = S 5 j := by rw [← hS, sv_5 h0 h1]
theorem rS6 {m S : zM} {o : Nat} {j : Int} (hS : sv m o = S) (h0 : 0 ≤ j) (h1 : j < 48) : m (o + 6) j = S 6 j := by rw [← hS, sv_6 h0 h1]
theorem rS7 {m S : zM} {o : Nat} {j : Int} (hS : sv m o = S) (h0 : 0 ≤ j) (h1 : j < 60) : m (o + 7) j = S 7 j := by rw [← hS, sv_7 h0 h1]
theorem rS00 {m S : zM} {o : Nat} (hS : sv m o = S) : m o 0 = S 0 0 := by rw [← hS]; rfl
theorem rS01 {m S : zM} {o : Nat} (hS : sv m o = S) : m o 1 = S 0 1 := by rw [← hS]; rfl
theorem rS02 {m S : zM} {o : Nat} (hS : sv m o = S) : m o 2 = S 0 2 := by rw [← hS]; rfl
theorem rS0a {m S : zM} {o : Nat} (hS : sv m o = S) : m o 10 = S 0 10 := by rw [← hS]; rfl
theorem rS0b {m S : zM} {o : Nat} (hS : sv m o = S) : m o 11 = S 0 11 := by rw [← hS]; rfl
theorem rZ {m Z : zM} {z : Nat} (hZ : zv m z = Z) (k : Nat) (h : k ≤ 15 ∧ k ≠ 13) : m (z + k) = Z k := by rw [← hZ, zv_at h]
theorem rZ0 {m Z : zM} {z : Nat} (hZ : zv m z = Z) : m z = Z 0 := rZ hZ 0 (by decide)
/-- a zoo and a state of the class beside a bank and a layer of the model -/
def GG (Z S mM : zM) (b v : Int) : Prop := ZM Z mM b ∧ SM Z S mM v ∧ mM 0 13 = b ∧ (b = 0 ∨ b = 1) ∧ 0 ≤ v ∧ v ≤ 21
theorem GG.nb {Z S mM : zM} {b v : Int} (h : GG Z S mM b v) : 0 ≤ Z 0 0 ∧ Z 0 0 ≤ 6 := h.1.1.2
theorem GG.ng {Z S mM : zM} {b v : Int} (h : GG Z S mM b v) : 0 ≤ Z 0 1 ∧ Z 0 1 ≤ 8 := h.1.2.1.2
theorem GG.bk {Z S mM : zM} {b v : Int} (h : GG Z S mM b v) : 0 ≤ b ∧ b ≤ 1 ∧ 0 ≤ v ∧ v ≤ 21 := by
  obtain ⟨_, _, _, h1, h2, h3⟩ := h
  omega
theorem GG.tr {Z S mM : zM} {b v i : Int} (h : GG Z S mM b v) (h0 : 0 ≤ i) (h1 : i < 3 * Z 0 1) : 0 ≤ S 1 i ∧ S 1 i ≤ 9 := (h.2.1.2.2.1 i ⟨h0, h1⟩).2
theorem GG.kb {Z S mM : zM} {b v i : Int} (h : GG Z S mM b v) (h0 : 0 ≤ i) (h1 : i < Z 0 1) : -1 ≤ S 2 i ∧ S 2 i ≤ Z 0 0 - 1 := (h.2.1.2.2.2.1 i ⟨h0, h1⟩).2
theorem GG.sb {Z S mM : zM} {b v i : Int} (h : GG Z S mM b v) (h0 : 0 ≤ i) (h1 : i < Z 0 1) : 0 ≤ S 3 i ∧ S 3 i ≤ 63 := (h.2.1.2.2.2.2.1 i ⟨h0, h1⟩).2
theorem GG.ta {Z S mM : zM} {b v i : Int} (h : GG Z S mM b v) (h0 : 0 ≤ i) (h1 : i < 3 * Z 0 0) : 0 ≤ S 4 i ∧ S 4 i ≤ 9 := (h.2.1.2.2.2.2.2.1 i ⟨h0, h1⟩).2
theorem pP_ok {nb ng b g : Int} (h0 : 0 ≤ b) (h1 : b < nb) (h2 : 0 ≤ g) (h3 : g < ng) (h4 : ng ≤ 8) : pP nb ng (b * 8 + g) := ⟨by omega, by omega, by omega⟩
theorem GG.sa {Z S mM : zM} {b v i j : Int} (h : GG Z S mM b v) (h0 : 0 ≤ i) (h1 : i < Z 0 0) (h2 : 0 ≤ j) (h3 : j < Z 0 1) : 0 ≤ S 5 (i * 8 + j) ∧ S 5 (i * 8 + j) ≤ 99 := (h.2.1.2.2.2.2.2.2.1 _ (pP_ok h0 h1 h2 h3 h.ng.2)).2
theorem GG.st {Z S mM : zM} {b v i j : Int} (h : GG Z S mM b v) (h0 : 0 ≤ i) (h1 : i < Z 0 0) (h2 : 0 ≤ j) (h3 : j < Z 0 1) : 0 ≤ S 6 (i * 8 + j) ∧ S 6 (i * 8 + j) ≤ 99 := (h.2.1.2.2.2.2.2.2.2.1 _ (pP_ok h0 h1 h2 h3 h.ng.2)).2
theorem GG.hr {Z S mM : zM} {b v : Int} (h : GG Z S mM b v) : 0 ≤ S 0 1 ∧ S 0 1 ≤ 23 := h.2.1.1.2.2.2
theorem GG.dy {Z S mM : zM} {b v : Int} (h : GG Z S mM b v) : 0 ≤ S 0 0 ∧ S 0 0 ≤ 999 := ⟨h.2.1.1.2.1, h.2.1.1.2.2.1⟩
theorem GG.fe {Z S mM : zM} {b v i : Int} (h : GG Z S mM b v) (h0 : 0 ≤ i) (h1 : i < Z 0 1) : 0 ≤ Z 9 i ∧ Z 9 i ≤ 63 := (h.1.2.2.2.2.2.2.2.2.1 i ⟨h0, h1⟩).2
def suit (S : zM) (b g : Int) : Int := S 1 (g * 3 + 0) * S 4 (b * 3 + 0) + S 1 (g * 3 + 1) * S 4 (b * 3 + 1) + S 1 (g * 3 + 2) * S 4 (b * 3 + 2)
theorem GG.su {Z S mM : zM} {bk v b g k : Int} (h : GG Z S mM bk v) (b0 : 0 ≤ b) (b1 : b < Z 0 0) (g0 : 0 ≤ g) (g1 : g < Z 0 1) (k0 : 0 ≤ k) (k1 : k < 3) : 0 ≤ S 1 (g * 3 + k) * S 4 (b * 3 + k) ∧ S 1 (g * 3 + k) * S 4 (b * 3 + k) ≤ 81 := by
  have a1 := h.tr (i := g * 3 + k) (by omega) (by omega)
  have a2 := h.ta (i := b * 3 + k) (by omega) (by omega)
  exact mul9 a1.1 a1.2 a2.1 a2.2
theorem GG.suit {Z S mM : zM} {bk v b g : Int} (h : GG Z S mM bk v) (b0 : 0 ≤ b) (b1 : b < Z 0 0) (g0 : 0 ≤ g) (g1 : g < Z 0 1) : 0 ≤ suit S b g ∧ suit S b g ≤ 243 := by
  have a1 := h.su b0 b1 g0 g1 (k := 0) (by omega) (by omega)
  have a2 := h.su b0 b1 g0 g1 (k := 1) (by omega) (by omega)
  have a3 := h.su b0 b1 g0 g1 (k := 2) (by omega) (by omega)
  unfold CBeastsChooseLaw_law_r4116_dae0f7.suit
  omega
theorem suits_s {rec : Nat → Int → Int → Int → Int → Option Int} {Z S mM m : zM} {o : Nat} {bk v b g k acc : Int} (h : GG Z S mM bk v) (hS : sv m o = S) (b0 : 0 ≤ b) (b1 : b < Z 0 0) (g0 : 0 ≤ g) (g1 : g < Z 0 1) (k0 : 0 ≤ k) (k1 : k < 3) (a0 : 0 ≤ acc) (a1 : acc ≤ 200) : St_suits_B5 rec o b g acc k m = rec o b g (acc + S 1 (g * 3 + k) * S 4 (b * 3 + k)) (k + 1) := by
  have n1 := h.nb
  have n2 := h.ng
  have p := h.su b0 b1 g0 g1 k0 k1
  unfold St_suits_B5
  rw [if_pos k1, wI_ok (x := g * 3) (by omega) (by omega), wI_ok (x := g * 3 + k) (by omega) (by omega), rd_ok (by omega) (by omega), wI_ok (x := b * 3) (by omega) (by omega), wI_ok (x := b * 3 + k) (by omega) (by omega), rd_ok (by omega) (by omega), lt_ok, rS1 hS (by omega) (by omega), rS4 hS (by omega) (by omega), wI_ok (x := S 1 (g * 3 + k) * S 4 (b * 3 + k)) (by omega) (by omega), wI_ok (by omega) (by omega), wI_ok (by omega) (by omega)]
theorem suits_ok {Z S mM m : zM} {o : Nat} {bk v b g : Int} (h : GG Z S mM bk v) (hS : sv m o = S) (b0 : 0 ≤ b) (b1 : b < Z 0 0) (g0 : 0 ≤ g) (g1 : g < Z 0 1) : St_suits o b g m = some (suit S b g) := by
  have L : ∀ n, St_suits_L5 m (n + 3 + 1) o b g 0 0 = some (suit S b g) := by
    intro n
    have p1 := h.su b0 b1 g0 g1 (k := 0) (by omega) (by omega)
    have p2 := h.su b0 b1 g0 g1 (k := 0 + 1) (by omega) (by omega)
    show St_suits_B5 _ _ _ _ _ _ _ = _
    rw [suits_s h hS b0 b1 g0 g1 (by omega) (by omega) (by omega) (by omega)]
    show St_suits_B5 _ _ _ _ _ _ _ = _
    rw [suits_s h hS b0 b1 g0 g1 (by omega) (by omega) (by omega) (by omega)]
    show St_suits_B5 _ _ _ _ _ _ _ = _
    rw [suits_s h hS b0 b1 g0 g1 (by omega) (by omega) (by omega) (by omega)]
    show St_suits_B5 _ _ _ _ _ _ _ = _
    unfold St_suits_B5
    rw [if_neg (by omega), Int.zero_add]
    rfl
  exact L 999996
/-- what the scene tells -/
def scn (S : zM) (b g : Int) : Int → Int := fun i => if i = 0 then suit S b g else if i = 1 then S 5 (b * 8 + g) else if i = 2 then S 0 1 else if 3 ≤ i ∧ i < 6 then S 1 (g * 3 + (i - 3)) else 0
theorem look_s {rec : Nat → Int → Int → zM → Option zM} {S m : zM} {o : Nat} {g k : Int} (hS : sv m o = S) (g0 : 0 ≤ g) (g1 : g < 8) (k0 : 0 ≤ k) (k1 : k < 3) : Ke_look_B42 rec o g k m = rec o g (k + 1) (upm m 29 (3 + k) (S 1 (g * 3 + k))) := by
  unfold Ke_look_B42
  rw [if_pos k1, wI_ok (x := g * 3) (by omega) (by omega), wI_ok (x := g * 3 + k) (by omega) (by omega), rd_ok (by omega) (by omega), wI_ok (x := 3 + k) (by omega) (by omega), wr_ok (by omega) (by omega), wI_ok (by omega) (by omega), rS1 hS (by omega) (by omega)]
theorem wp_look {Z S mM m : zM} {o : Nat} {bk v b g : Int} (h : GG Z S mM bk v) (hS : sv m o = S) (ho : o + 7 < 26 ∨ 89 ≤ o) (b0 : 0 ≤ b) (b1 : b < Z 0 0) (g0 : 0 ≤ g) (g1 : g < Z 0 1) : wp (Ke_look o b g m) (fun m' => eqO [29] m m' ∧ ∀ i, 0 ≤ i → i < 6 → m' 29 i = scn S b g i) := by
  have n1 := h.nb
  have n2 := h.ng
  have u : ∀ (m : zM) (i v : Int), sv (upm m 29 i v) o = sv m o := fun m i v => sv_upm (by omega)
  unfold Ke_look
  refine wp_be (suits_ok h hS b0 b1 g0 g1) ?_
  rw [wr_ok (by omega) (by omega), wI_ok (x := b * 8) (by omega) (by omega), wI_ok (x := b * 8 + g) (by omega) (by omega), rd_ok (by omega) (by omega), upm_ne (a := 29) (b := o + 5) (by omega), rS5 hS (by omega) (by omega), wr_ok (by omega) (by omega), upm_ne (a := 29) (b := o) (by omega), upm_ne (a := 29) (b := o) (by omega), rS01 hS, wr_ok (by omega) (by omega)]
  have L : ∀ (n : Nat) (m : zM), sv m o = S → Ke_look_L42 (n + 3 + 1) o g 0 m = some (upm (upm (upm m 29 3 (S 1 (g * 3 + 0))) 29 4 (S 1 (g * 3 + 1))) 29 5 (S 1 (g * 3 + 2))) := by
    intro n m hS
    show Ke_look_B42 _ _ _ _ _ = _
    rw [look_s hS (by omega) (by omega) (by omega) (by omega)]
    show Ke_look_B42 _ _ _ _ _ = _
    rw [look_s (S := S) (by rw [u, hS]) (by omega) (by omega) (by omega) (by omega)]
    show Ke_look_B42 _ _ _ _ _ = _
    rw [look_s (S := S) (by rw [u, u, hS]) (by omega) (by omega) (by omega) (by omega)]
    show Ke_look_B42 _ _ _ _ _ = _
    unfold Ke_look_B42
    rw [if_neg (by omega)]
    rfl
  refine wp_eq (L 999996 _ (by rw [u, u, u, hS])) ⟨?_, ?_⟩
  · exact (((((eqO.refl.put (by simp)).put (by simp)).put (by simp)).put (by simp)).put (by simp)).put (by simp)
  · intro i i0 i1
    have : i = 0 ∨ i = 1 ∨ i = 2 ∨ i = 3 ∨ i = 4 ∨ i = 5 := by omega
    rcases this with e | e | e | e | e | e <;> subst e <;> simp (disch := omega) only [ru2, ru3] <;> rfl
def LKV (Z S : zM) (b g : Int) : Int := if Z 11 1 = 0 then suit S b g / (1 + S 5 (b * 8 + g)) else max 0 (min 999 (vlF (Z 11 1) (Z 12) (scn S b g)))
theorem GG.scn {Z S mM : zM} {bk v b g : Int} (h : GG Z S mM bk v) (b0 : 0 ≤ b) (b1 : b < Z 0 0) (g0 : 0 ≤ g) (g1 : g < Z 0 1) (i : Int) (i0 : 0 ≤ i) (i1 : i < 6) : -1000000 ≤ scn S b g i ∧ scn S b g i ≤ 1000000 := by
  unfold CBeastsChooseLaw_law_r4116_dae0f7.scn
  have a1 := h.suit b0 b1 g0 g1
  have a2 := h.sa b0 b1 g0 g1
  have a3 := h.hr
  by_cases e0 : i = 0
  · rw [if_pos e0]; omega
  · by_cases e1 : i = 1
    · rw [if_neg e0, if_pos e1]; omega
    · by_cases e2 : i = 2
      · rw [if_neg e0, if_neg e1, if_pos e2]; omega
      · rw [if_neg e0, if_neg e1, if_neg e2, if_pos (by omega)]
        have a4 := h.tr (i := g * 3 + (i - 3)) (by omega) (by omega)
        omega
theorem FR.len {len : Int} {cd : Int → Int} {mM : zM} {b w : Int} {t : Bool} {mx : Int} (h : FR len cd mM b w t mx) : 0 ≤ len ∧ len ≤ 1600 ∧ (len ≠ 0 → 0 < len) ∧ (len = 0 ↔ mM 13 (2 * b + w) = -1) := by
  rcases h with ⟨h, h2⟩ | ⟨h1, h2, h3, h4, _⟩ <;> omega
theorem GG.lk {Z S mM : zM} {bk v b g : Int} (h : GG Z S mM bk v) (b0 : 0 ≤ b) (b1 : b < Z 0 0) (g0 : 0 ≤ g) (g1 : g < Z 0 1) : 0 ≤ LKV Z S b g ∧ LKV Z S b g ≤ 999 := by
  have a1 := h.suit b0 b1 g0 g1
  have a2 := h.sa b0 b1 g0 g1
  unfold LKV
  by_cases e : Z 11 1 = 0
  · rw [if_pos e]
    have := ediv_le a1.1 (show 0 < 1 + S 5 (b * 8 + g) by omega)
    omega
  · rw [if_neg e]
    omega
theorem GG.likes {Z S mM : zM} {b v : Int} (h : GG Z S mM b v) : FR (Z 11 1) (Z 12) mM b 0 false 6 := h.1.2.2.2.2.2.2.2.2.2.2.2.2.2.1
theorem GG.may {Z S mM : zM} {b v : Int} (h : GG Z S mM b v) : FR (Z 14 1) (Z 15) mM b 1 true 9 := h.1.2.2.2.2.2.2.2.2.2.2.2.2.2.2
theorem jn_div {a b : Int} (a0 : 0 ≤ a) (a1 : a ≤ 1000000) (b0 : 0 < b) : jn 47 a b = a / b := by
  have t := ediv_le a0 b0
  have e : Int.tdiv a b = a / b := Int.tdiv_eq_ediv_of_nonneg a0
  unfold jn
  simp only [Int.reduceEq, ↓reduceIte]
  unfold clp fdv
  rw [if_neg (show ¬ b = 0 by omega), if_neg (show ¬ (((a < 0 ∧ 0 ≤ b) ∨ (0 ≤ a ∧ b < 0)) ∧ a.tdiv b * b ≠ a) from fun q => by rcases q.1 with q | q <;> omega), e]
  omega
theorem wp_liking {Z S mM m : zM} {z o : Nat} {bk v b g : Int} (h : GG Z S mM bk v) (hZ : zv m z = Z) (hS : sv m o = S) (hz : 55 ≤ z) (ho : o + 7 < 26 ∨ 89 ≤ o) (b0 : 0 ≤ b) (b1 : b < Z 0 0) (g0 : 0 ≤ g) (g1 : g < Z 0 1) : wp (Ke_liking z o b g m) (fun r => r.1 = LKV Z S b g ∧ eqO [29, z + 13] m r.2) := by
  have a1 := h.suit b0 b1 g0 g1
  have a2 := h.sa b0 b1 g0 g1
  have fl := h.likes.len
  unfold Ke_liking
  refine wp_bm (wp_look h hS ho b0 b1 g0 g1) (fun m1 ⟨k1, k2⟩ => ?_)
  have e11 : m1 (z + 11) 1 = Z 11 1 := by rw [k1 (z + 11) (by simp; omega), rZ hZ 11 (by decide)]
  have e12 : m1 (z + 12) = Z 12 := by rw [k1 (z + 12) (by simp; omega), rZ hZ 12 (by decide)]
  rw [e11]
  by_cases e : Z 11 1 = 0
  · rw [if_neg (show ¬ 0 < Z 11 1 by omega), rd_ok (by omega) (by omega), rd_ok (by omega) (by omega), k2 0 (by omega) (by omega), k2 1 (by omega) (by omega)]
    show wp ((Fo_joined 47 (suit S b g) (wI (1 + S 5 (b * 8 + g)))).bind (fun r11 => some (max 0 (min 999 r11), m1))) _
    rw [wI_ok (by omega) (by omega), joined_ok (c := 47) (s := 34) (by unfold bop; omega) ⟨by omega, by omega⟩ ⟨by omega, by omega⟩ (fun q => absurd q (by decide)), Option.bind_some, jn_div a1.1 (by omega) (by omega)]
    refine wp_some ⟨?_, k1.mono (by simp)⟩
    have := ediv_le a1.1 (show 0 < 1 + S 5 (b * 8 + g) by omega)
    unfold LKV
    rw [if_pos e]
    show max 0 (min 999 (suit S b g / (1 + S 5 (b * 8 + g)))) = _
    omega
  · have p := fl.2.2.1 e
    rw [if_pos p]
    refine wp_bm (wp_valueOf (sc := scn S b g) h.likes (fl.2.2.1 e) fl.2.1 (by omega) (fun i i0 i1 => h.scn b0 b1 g0 g1 i i0 i1) e11 e12 k2 (by omega)) (fun r ⟨r1, r2⟩ => ?_)
    refine wp_some ⟨?_, ?_⟩
    · unfold LKV
      rw [if_neg e, r1]
    · exact (k1.mono (by simp)).trans (r2.mono (by simp))
def feV (Z : zM) (b g : Int) : Int := anI (srI (Z 9 g) b) 1
theorem bit_b (x k : Int) : anI x k = anI x k := rfl
theorem an1 (x : Int) : anI x 1 = 0 ∨ anI x 1 = 1 := by
  unfold anI
  have h := pk_and (Int32.ofInt x) (m := Int32.ofInt 1) 1 (by decide)
  rw [h, nI_toInt (by omega)]
  omega
theorem feared_ok {m Z : zM} {z : Nat} {b g : Int} (hZ : zv m z = Z) (g0 : 0 ≤ g) (g1 : g < 8) : Zo_isFeared z b g m = some (feV Z b g) := by
  unfold Zo_isFeared feV
  rw [rd_ok g0 (by omega), rZ hZ 9 (by decide)]
  rcases an1 (srI (Z 9 g) b) with e | e <;> rw [e] <;> rfl
theorem M_has2_ok {x k : Int} : M_has2 x k = some (anI (srI x k) 1) := by
  unfold M_has2
  rcases an1 (srI x k) with e | e <;> rw [e] <;> rfl
/-- what the scene of may tells -/
def scm (Z S : zM) (b g fr : Int) : Int → Int := fun i => if i = 6 then LKV Z S b g else if i = 7 then feV Z b g else if i = 8 then fr else scn S b g i
def mayV (Z S : zM) (b g fr : Int) : Int := if Z 14 1 = 0 then 1 else vlF (Z 14 1) (Z 15) (scm Z S b g fr)
theorem GG.scm {Z S mM : zM} {bk v b g fr : Int} (h : GG Z S mM bk v) (b0 : 0 ≤ b) (b1 : b < Z 0 0) (g0 : 0 ≤ g) (g1 : g < Z 0 1) (f0 : 0 ≤ fr) (f1 : fr ≤ 6) (i : Int) (i0 : 0 ≤ i) (i1 : i < 9) : -1000000 ≤ scm Z S b g fr i ∧ scm Z S b g fr i ≤ 1000000 := by
  unfold CBeastsChooseLaw_law_r4116_dae0f7.scm feV
  have a1 := h.lk b0 b1 g0 g1
  by_cases e0 : i = 6
  · rw [if_pos e0]; omega
  · by_cases e1 : i = 7
    · rw [if_neg e0, if_pos e1]
      rcases an1 (srI (Z 9 g) b) with e | e <;> rw [e] <;> omega
    · by_cases e2 : i = 8
      · rw [if_neg e0, if_neg e1, if_pos e2]; omega
      · rw [if_neg e0, if_neg e1, if_neg e2]
        exact h.scn b0 b1 g0 g1 i i0 (by omega)
theorem GG.mayb {Z S mM : zM} {bk v b g fr : Int} (h : GG Z S mM bk v) (b0 : 0 ≤ b) (b1 : b < Z 0 0) (g0 : 0 ≤ g) (g1 : g < Z 0 1) (f0 : 0 ≤ fr) (f1 : fr ≤ 6) : mayV Z S b g fr = 0 ∨ mayV Z S b g fr = 1 := by
  unfold mayV
  by_cases e : Z 14 1 = 0
  · rw [if_pos e]; exact Or.inr rfl
  · rw [if_neg e]
    exact (h.may.one (h.may.len.2.2.1 e) (fun i i0 i1 => h.scm b0 b1 g0 g1 f0 f1 i i0 i1)).2.2.2 rfl
theorem wp_may {Z S mM m : zM} {z o : Nat} {bk v b g fr : Int} (h : GG Z S mM bk v) (hZ : zv m z = Z) (hS : sv m o = S) (hz : 55 ≤ z) (ho : o + 7 < 26 ∨ 89 ≤ o) (b0 : 0 ≤ b) (b1 : b < Z 0 0) (g0 : 0 ≤ g) (g1 : g < Z 0 1) (f0 : 0 ≤ fr) (f1 : fr ≤ 6) (hl : m 26 (b * 8 + g) = LKV Z S b g) : wp (Ke_mayAsk z o b g fr m) (fun r => r.1 = mayV Z S b g fr ∧ eqO [29, z + 16] m r.2) := by
  have n1 := h.nb
  have n2 := h.ng
  have fl := h.may.len
  have mb := h.mayb b0 b1 g0 g1 f0 f1
  have e14 : m (z + 14) 1 = Z 14 1 := by rw [rZ hZ 14 (by decide)]
  unfold Ke_mayAsk
  rw [e14]
  by_cases e : Z 14 1 = 0
  · rw [if_pos e]
    exact wp_some ⟨by unfold mayV; rw [if_pos e], eqO.refl⟩
  · rw [if_neg e]
    refine wp_bm (wp_look h hS ho b0 b1 g0 g1) (fun m1 ⟨k1, k2⟩ => ?_)
    have z1 : zv m1 z = Z := by rw [← hZ]; exact zv_eq fun k q1 q2 => k1 _ (by simp; omega)
    have q26 : m1 26 = m 26 := k1 26 (by simp)
    have key : ∀ x, x = feV Z b g → wp (Ke_mayAsk_b60 z fr 29 9 7 x (upm m1 29 6 (LKV Z S b g))) (fun r => r.1 = mayV Z S b g fr ∧ eqO [29, z + 16] m r.2) := by
      intro x hx
      unfold Ke_mayAsk_b60
      rw [wr_ok (by omega) (by omega), wr_ok (by omega) (by omega)]
      have z2 : zv (upm (upm (upm m1 29 6 (LKV Z S b g)) 29 7 x) 29 8 fr) z = Z := by rw [zv_upm (by omega), zv_upm (by omega), zv_upm (by omega), z1]
      have f2 : eqO [29, z + 16] m (upm (upm (upm m1 29 6 (LKV Z S b g)) 29 7 x) 29 8 fr) := (((k1.mono (by simp)).put (by simp)).put (by simp)).put (by simp)
      refine wp_bm (wp_valueOf (sc := scm Z S b g fr) h.may (fl.2.2.1 e) fl.2.1 (by omega) (fun i i0 i1 => h.scm b0 b1 g0 g1 f0 f1 i i0 i1) (by rw [rZ z2 14 (by decide)]) (by rw [rZ z2 15 (by decide)]) ?_ (by omega)) (fun r ⟨r1, r2⟩ => ?_)
      · intro i i0 i1
        unfold CBeastsChooseLaw_law_r4116_dae0f7.scm
        by_cases c6 : i = 6
        · subst c6; simp (disch := omega) only [ru2, ru3]; rfl
        · by_cases c7 : i = 7
          · subst c7; simp (disch := omega) only [ru2, ru3, hx]; rfl
          · by_cases c8 : i = 8
            · subst c8; simp (disch := omega) only [ru2, ru3]; rfl
            · simp (disch := omega) only [ru2]
              rw [if_neg c6, if_neg c7, if_neg c8]
              exact k2 i i0 (by omega)
      · have em : mayV Z S b g fr = r.1 := by unfold mayV; rw [if_neg e, r1]
        have f3 : eqO [29, z + 16] m r.2 := f2.trans (r2.mono (by simp))
        rw [em] at mb ⊢
        by_cases w : r.1 = 0
        · rw [if_pos w]; exact wp_some ⟨w.symm, f3⟩
        · rw [if_neg w]; exact wp_some ⟨by show 1 = r.1; omega, f3⟩
    rw [wI_ok (x := b * 8) (by omega) (by omega), wI_ok (x := b * 8 + g) (by omega) (by omega), rd_ok (by omega) (by omega), wr_ok (by omega) (by omega), q26, hl]
    refine wp_be (feared_ok (Z := Z) (by rw [zv_upm (by omega), z1]) g0 (by omega)) ?_
    rcases an1 (srI (Z 9 g) b) with w | w
    · rw [if_pos (show feV Z b g = 0 from w)]; exact key 0 (show (0 : Int) = feV Z b g from w.symm)
    · rw [if_neg (show ¬ feV Z b g = 0 from by show ¬ anI (srI (Z 9 g) b) 1 = 0; omega)]; exact key 1 (show (1 : Int) = feV Z b g from w.symm)
/-- can a beast ask for a guest in this hour -/
def awV (Z S : zM) (b : Int) : Bool := decide (Z 2 b ≤ S 0 1 ∧ S 0 1 ≤ Z 3 b)
def thV (Z S : zM) (g : Int) : Bool := decide (Z 7 g ≤ S 0 1 ∧ S 0 1 ≤ Z 8 g)
def opV (Z S : zM) (b g : Int) : Bool := thV Z S g && decide (S 2 g = -1) && decide (anI (srI (S 3 g) b) 1 = 0)
theorem awake_ok {m Z : zM} {z : Nat} {b h : Int} (hZ : zv m z = Z) (b0 : 0 ≤ b) (b1 : b < 6) : Zo_isAwake z b h m = some (if Z 2 b ≤ h ∧ h ≤ Z 3 b then 1 else 0) := by
  unfold Zo_isAwake
  rw [rd_ok b0 (by omega), rd_ok b0 (by omega), rZ hZ 2 (by decide), rZ hZ 3 (by decide)]
  by_cases h1 : h < Z 2 b
  · rw [if_pos h1, if_neg (by omega)]
  · rw [if_neg h1]
    by_cases h2 : Z 3 b < h
    · rw [if_pos h2, if_neg (by omega)]
    · rw [if_neg h2, if_pos (by omega)]
theorem there_ok {m Z : zM} {z : Nat} {g h : Int} (hZ : zv m z = Z) (b0 : 0 ≤ g) (b1 : g < 8) : Zo_isThere z g h m = some (if Z 7 g ≤ h ∧ h ≤ Z 8 g then 1 else 0) := by
  unfold Zo_isThere
  rw [rd_ok b0 (by omega), rd_ok b0 (by omega), rZ hZ 7 (by decide), rZ hZ 8 (by decide)]
  by_cases h1 : h < Z 7 g
  · rw [if_pos h1, if_neg (by omega)]
  · rw [if_neg h1]
    by_cases h2 : Z 8 g < h
    · rw [if_pos h2, if_neg (by omega)]
    · rw [if_neg h2, if_pos (by omega)]
theorem meet_ok {m Z S : zM} {z o : Nat} {b g : Int} (hZ : zv m z = Z) (hS : sv m o = S) (b0 : 0 ≤ b) (b1 : b < 6) (g0 : 0 ≤ g) (g1 : g < 8) : Ke_canMeet z o b g m = some (if (awV Z S b && opV Z S b g) = true then 1 else 0) := by
  unfold Ke_canMeet
  rw [awake_ok hZ b0 b1, there_ok hZ g0 g1, Option.bind_some, Option.bind_some, rd_ok g0 (by omega), rd_ok g0 (by omega), rS01 hS, rS2 hS g0 g1, rS3 hS g0 g1]
  unfold awV opV thV
  by_cases h1 : Z 2 b ≤ S 0 1 ∧ S 0 1 ≤ Z 3 b
  · rw [if_pos h1, if_neg (by decide)]
    by_cases h2 : Z 7 g ≤ S 0 1 ∧ S 0 1 ≤ Z 8 g
    · rw [if_pos h2, if_neg (by decide)]
      by_cases h3 : S 2 g = -1
      · rw [if_pos h3]
        by_cases h4 : anI (srI (S 3 g) b) 1 = 0
        · rw [if_pos h4, if_pos (by simp [h1, h2, h3, h4])]
        · rw [if_neg h4, if_neg (by simp [h4])]
      · rw [if_neg h3, if_neg (by simp [h3])]
    · rw [if_neg h2, if_pos rfl, if_neg (by simp only [decide_eq_false h2]; simp)]
  · rw [if_neg h1, if_pos rfl, if_neg (by simp only [decide_eq_false h1]; simp)]
