/-! tastes that are left -/
def dgV (w k : Int) : Int := if k = 0 then w / 100 else if k = 1 then w / 10 % 10 else w % 10
theorem dg_b {w : Int} (k : Int) (w0 : 0 ≤ w) (w1 : w < 1000) : 0 ≤ dgV w k ∧ dgV w k ≤ 9 := by
  unfold dgV
  by_cases h0 : k = 0
  · rw [if_pos h0]; omega
  · rw [if_neg h0]
    by_cases h1 : k = 1
    · rw [if_pos h1]; omega
    · rw [if_neg h1]; omega
theorem dgC {w k : Int} (w0 : 0 ≤ w) (w1 : w < 1000) : Gu_digit w k = some (dgV w k) := by
  unfold Gu_digit dgV
  rw [dvI_n w0 (by omega) (by decide) (by decide), dvI_n w0 (by omega) (by decide) (by decide), rmI_n (x := w / 10) (by omega) (by omega) (by decide) (by decide), rmI_n w0 (by omega) (by decide) (by decide)]
  split
  · rfl
  · split <;> rfl
theorem dgM {w k : Int} (w0 : 0 ≤ w) (w1 : w < 1000) : M_digit w k = some (dgV w k) := by
  unfold M_digit dgV
  rw [dvI_n w0 (by omega) (by decide) (by decide), dvI_n w0 (by omega) (by decide) (by decide), rmI_n (x := w / 10) (by omega) (by omega) (by decide) (by decide), rmI_n w0 (by omega) (by decide) (by decide)]
  split
  · rfl
  · split <;> rfl
def sbV (S : zM) (w g : Int) : Int := dgV w 0 * S 1 (g * 3 + 0) + dgV w 1 * S 1 (g * 3 + 1) + dgV w 2 * S 1 (g * 3 + 2)
theorem GG.dt {Z S mM : zM} {bk v w g k : Int} (h : GG Z S mM bk v) (w0 : 0 ≤ w) (w1 : w < 1000) (g0 : 0 ≤ g) (g1 : g < Z 0 1) (k0 : 0 ≤ k) (k1 : k < 3) : 0 ≤ dgV w k * S 1 (g * 3 + k) ∧ dgV w k * S 1 (g * 3 + k) ≤ 81 := by
  have a1 := dg_b k w0 w1
  have a2 := h.tr (i := g * 3 + k) (by omega) (by omega)
  exact mul9 a1.1 a1.2 a2.1 a2.2
theorem sbV_b {Z S mM : zM} {bk v w g : Int} (h : GG Z S mM bk v) (w0 : 0 ≤ w) (w1 : w < 1000) (g0 : 0 ≤ g) (g1 : g < Z 0 1) : 0 ≤ sbV S w g ∧ sbV S w g ≤ 243 := by
  have a1 := h.dt w0 w1 g0 g1 (k := 0) (by decide) (by decide)
  have a2 := h.dt w0 w1 g0 g1 (k := 1) (by decide) (by decide)
  have a3 := h.dt w0 w1 g0 g1 (k := 2) (by decide) (by decide)
  unfold sbV
  omega
theorem lead_s {rec : Int → Nat → Nat → Int → Int → Int → Int → Option Int} {Z S mM m : zM} {bk v w a b k acc : Int} (h : GG Z S mM bk v) (hS : sv m 8 = S) (w0 : 0 ≤ w) (w1 : w < 1000) (a0 : 0 ≤ a) (a1 : a < Z 0 1) (b0 : 0 ≤ b) (b1 : b < Z 0 1) (k0 : 0 ≤ k) (k1 : k < 3) (c0 : -200 ≤ acc) (c1 : acc ≤ 200) : Gu_lead_B6 rec w 9 24 a b acc k m = rec w 9 24 a b (acc + (dgV w k * S 1 (a * 3 + k) - dgV w k * S 1 (b * 3 + k))) (k + 1) := by
  have n2 := h.ng
  have p := h.dt w0 w1 a0 a1 k0 k1
  have q := h.dt w0 w1 b0 b1 k0 k1
  have ta := h.tr (i := a * 3 + k) (by omega) (by omega)
  have tb := h.tr (i := b * 3 + k) (by omega) (by omega)
  have e : dgV w k * (S 1 (a * 3 + k) - S 1 (b * 3 + k)) = dgV w k * S 1 (a * 3 + k) - dgV w k * S 1 (b * 3 + k) := Int.mul_sub _ _ _
  unfold Gu_lead_B6
  rw [if_pos k1, dgC w0 w1, Option.bind_some, wI_ok (x := a * 3) (by omega) (by omega), wI_ok (x := b * 3) (by omega) (by omega), wI_ok (x := a * 3 + k) (by omega) (by omega), wI_ok (x := b * 3 + k) (by omega) (by omega), rd_ok (by omega) (by omega), rd_ok (by omega) (by omega), show m 9 (a * 3 + k) = S 1 (a * 3 + k) from rS1 (o := 8) hS (by omega) (by omega), show m 9 (b * 3 + k) = S 1 (b * 3 + k) from rS1 (o := 8) hS (by omega) (by omega), wI_ok (x := S 1 (a * 3 + k) - S 1 (b * 3 + k)) (by omega) (by omega), e, lt_ok, wI_ok (x := dgV w k * S 1 (a * 3 + k) - dgV w k * S 1 (b * 3 + k)) (by omega) (by omega), wI_ok (by omega) (by omega), wI_ok (by omega) (by omega)]
theorem lead_ok {Z S mM m : zM} {bk v w a b : Int} (h : GG Z S mM bk v) (hS : sv m 8 = S) (w0 : 0 ≤ w) (w1 : w < 1000) (a0 : 0 ≤ a) (a1 : a < Z 0 1) (b0 : 0 ≤ b) (b1 : b < Z 0 1) : Gu_lead w 9 24 a b m = some (sbV S w a - sbV S w b) := by
  have L : ∀ n, Gu_lead_L6 m (n + 3 + 1) w 9 24 a b 0 0 = some (sbV S w a - sbV S w b) := by
    intro n
    have p0 := h.dt w0 w1 a0 a1 (k := 0) (by decide) (by decide)
    have p1 := h.dt w0 w1 a0 a1 (k := 0 + 1) (by decide) (by decide)
    have q0 := h.dt w0 w1 b0 b1 (k := 0) (by decide) (by decide)
    have q1 := h.dt w0 w1 b0 b1 (k := 0 + 1) (by decide) (by decide)
    show Gu_lead_B6 _ _ _ _ _ _ _ _ _ = _
    rw [lead_s h hS w0 w1 a0 a1 b0 b1 (by omega) (by omega) (by omega) (by omega)]
    show Gu_lead_B6 _ _ _ _ _ _ _ _ _ = _
    rw [lead_s h hS w0 w1 a0 a1 b0 b1 (by omega) (by omega) (by omega) (by omega)]
    show Gu_lead_B6 _ _ _ _ _ _ _ _ _ = _
    rw [lead_s h hS w0 w1 a0 a1 b0 b1 (by omega) (by omega) (by omega) (by omega)]
    show Gu_lead_B6 _ _ _ _ _ _ _ _ _ = _
    unfold Gu_lead_B6
    rw [if_neg (by omega)]
    unfold sbV
    congr 1
    show 0 + (dgV w 0 * S 1 (a * 3 + 0) - dgV w 0 * S 1 (b * 3 + 0)) + (dgV w 1 * S 1 (a * 3 + 1) - dgV w 1 * S 1 (b * 3 + 1)) + (dgV w 2 * S 1 (a * 3 + 2) - dgV w 2 * S 1 (b * 3 + 2)) = _
    omega
  exact L 999996
theorem suitsBy_s {rec : Int → Int → Int → Int → Option Int} {Z S mM : zM} {bk w g k acc : Int} (h : GG Z S mM bk 0) (w0 : 0 ≤ w) (w1 : w < 1000) (g0 : 0 ≤ g) (g1 : g < Z 0 1) (k0 : 0 ≤ k) (k1 : k < 3) (c0 : 0 ≤ acc) (c1 : acc ≤ 200) : M_suitsBy_B5 rec w g acc k mM = rec w g (acc + dgV w k * S 1 (g * 3 + k)) (k + 1) := by
  have p := h.dt w0 w1 g0 g1 k0 k1
  unfold M_suitsBy_B5
  rw [if_pos k1, dgM w0 w1, Option.bind_some, MG_look h g0 g1 k0 k1, Option.bind_some, lt_ok, wI_ok (x := dgV w k * S 1 (g * 3 + k)) (by omega) (by omega), wI_ok (by omega) (by omega), wI_ok (by omega) (by omega)]
theorem suitsBy_ok {Z S mM : zM} {bk w g : Int} (h : GG Z S mM bk 0) (w0 : 0 ≤ w) (w1 : w < 1000) (g0 : 0 ≤ g) (g1 : g < Z 0 1) : M_suitsBy w g mM = some (sbV S w g) := by
  have L : ∀ n, M_suitsBy_L5 mM (n + 3 + 1) w g 0 0 = some (sbV S w g) := by
    intro n
    have p0 := h.dt w0 w1 g0 g1 (k := 0) (by decide) (by decide)
    have p1 := h.dt w0 w1 g0 g1 (k := 0 + 1) (by decide) (by decide)
    show M_suitsBy_B5 _ _ _ _ _ _ = _
    rw [suitsBy_s h w0 w1 g0 g1 (by omega) (by omega) (by omega) (by omega)]
    show M_suitsBy_B5 _ _ _ _ _ _ = _
    rw [suitsBy_s h w0 w1 g0 g1 (by omega) (by omega) (by omega) (by omega)]
    show M_suitsBy_B5 _ _ _ _ _ _ = _
    rw [suitsBy_s h w0 w1 g0 g1 (by omega) (by omega) (by omega) (by omega)]
    show M_suitsBy_B5 _ _ _ _ _ _ = _
    unfold M_suitsBy_B5
    rw [if_neg (by omega), Int.zero_add]
    rfl
  exact L 999996
/-- does a taste fit the rows told -/
def tsV (S : zM) (ra ot : Int → Int) (R w : Int) : Nat → Int → Int
  | 0, _ => 1
  | n + 1, i => if i < R then (if sbV S w (ot i) < sbV S w (ra i) then tsV S ra ot R w n (i + 1) else 0) else 1
theorem ts_C {Z S mM m : zM} {bk w R : Int} {ra ot : Int → Int} (h : GG Z S mM bk 0) (hS : sv m 8 = S) (w0 : 0 ≤ w) (w1 : w < 1000) (hR : m 40 0 = R) (R1 : R ≤ 16) (hr : ∀ k, 0 ≤ k → k < R → (m 42 (2 * k) = ra k ∧ 0 ≤ ra k ∧ ra k < Z 0 1) ∧ (m 42 (2 * k + 1) = ot k ∧ 0 ≤ ot k ∧ ot k < Z 0 1)) : ∀ (n : Nat) (i : Int), 0 ≤ i → i ≤ R → R - i < (n : Int) → Gu_fits_L2 m n w 9 24 i = some (tsV S ra ot R w n i)
  | 0, i, i0, i1, i2 => by omega
  | n + 1, i, i0, i1, i2 => by
    show Gu_fits_B2 _ _ _ _ _ _ = some (if i < R then _ else _)
    unfold Gu_fits_B2
    rw [hR]
    by_cases c : i < R
    · obtain ⟨⟨e1, e2, e3⟩, f1, f2, f3⟩ := hr i i0 c
      rw [if_pos c, if_pos c, wI_ok (x := 2 * i) (by omega) (by omega), wI_ok (x := 2 * i + 1) (by omega) (by omega), rd_ok (by omega) (by omega), rd_ok (by omega) (by omega), e1, f1, lead_ok h hS w0 w1 e2 e3 f2 f3, Option.bind_some, wI_ok (by omega) (by omega)]
      by_cases d : sbV S w (ot i) < sbV S w (ra i)
      · rw [if_pos d, if_pos (by omega)]
        exact ts_C h hS w0 w1 hR R1 hr n (i + 1) (by omega) (by omega) (by omega)
      · rw [if_neg d, if_neg (by omega)]
    · rw [if_neg c, if_neg c]
theorem ts_M {Z S mM : zM} {bk w R : Int} {ra ot : Int → Int} (h : GG Z S mM bk 0) (w0 : 0 ≤ w) (w1 : w < 1000) (hR : mM 0 65 = R) (R1 : R ≤ 16) (hr : ∀ k, 0 ≤ k → k < R → (mM 43 k = ra k ∧ 0 ≤ ra k ∧ ra k < Z 0 1) ∧ (mM 44 k = ot k ∧ 0 ≤ ot k ∧ ot k < Z 0 1)) : ∀ (n : Nat) (i : Int), 0 ≤ i → i ≤ R → R - i < (n : Int) → M_isTaste_L2 mM n w i = some (tsV S ra ot R w n i)
  | 0, i, i0, i1, i2 => by omega
  | n + 1, i, i0, i1, i2 => by
    show M_isTaste_B2 _ _ _ _ = some (if i < R then _ else _)
    unfold M_isTaste_B2
    rw [hR]
    by_cases c : i < R
    · obtain ⟨⟨e1, e2, e3⟩, f1, f2, f3⟩ := hr i i0 c
      rw [if_pos c, if_pos c, rd_ok (by omega) (by omega), e1, suitsBy_ok h w0 w1 e2 e3, Option.bind_some, rd_ok (by omega) (by omega), f1, suitsBy_ok h w0 w1 f2 f3, Option.bind_some, wI_ok (by omega) (by omega)]
      by_cases d : sbV S w (ot i) < sbV S w (ra i)
      · rw [if_pos d, if_pos d]
        exact ts_M h w0 w1 hR R1 hr n (i + 1) (by omega) (by omega) (by omega)
      · rw [if_neg d, if_neg d]
    · rw [if_neg c, if_neg c]
def tsW (S : zM) (ra ot : Int → Int) (R w : Int) : Int := tsV S ra ot R w 1000000 0
/-- the tastes that fit, in order -/
def fitL (f : Int → Int) : Nat → List Int
  | 0 => []
  | n + 1 => if f (n : Int) = 0 then fitL f n else fitL f n ++ [(n : Int)]
theorem fitL_len {f : Int → Int} : ∀ n, (fitL f n).length ≤ n
  | 0 => Nat.le_refl _
  | n + 1 => by
    have := fitL_len (f := f) n
    unfold fitL
    split
    · omega
    · simp; omega
theorem fitL_b {f : Int → Int} : ∀ n, ∀ w ∈ fitL f n, 0 ≤ w ∧ w < (n : Int)
  | 0, w, h => by cases h
  | n + 1, w, h => by
    have ih := fitL_b (f := f) n
    unfold fitL at h
    split at h
    · have := ih w h; omega
    · rcases List.mem_append.mp h with q | q
      · have := ih w q; omega
      · rw [List.mem_singleton] at q; omega
def arr (f : Int → Int) (L : List Int) : Prop := ∀ j : Nat, j < L.length → f (j : Int) = L.getD j 0
theorem arr_push {f : Int → Int} {L : List Int} {x : Int} (h : arr f L) : arr (sets f (L.length : Int) x) (L ++ [x]) := by
  intro j hj
  rw [List.length_append, List.length_singleton] at hj
  by_cases e : j = L.length
  · subst e
    rw [sets_eq, List.getD_eq_getElem?_getD, List.getElem?_append_right (Nat.le_refl _), Nat.sub_self]
    rfl
  · rw [sets_ne (by omega), h j (by omega), List.getD_eq_getElem?_getD, List.getD_eq_getElem?_getD, List.getElem?_append_left (by omega)]
theorem wp_gather {Z S mM m : zM} {bk R : Int} {ra ot : Int → Int} (h : GG Z S mM bk 0) (hS : sv m 8 = S) (hR : m 40 0 = R) (R0 : 0 ≤ R) (R1 : R ≤ 16) (hr : ∀ k, 0 ≤ k → k < R → (m 42 (2 * k) = ra k ∧ 0 ≤ ra k ∧ ra k < Z 0 1) ∧ (m 42 (2 * k + 1) = ot k ∧ 0 ≤ ot k ∧ ot k < Z 0 1)) : wp (Gu_gather 9 24 m) (fun r => (∀ a, a ≠ 40 → a ≠ 43 → r a = m a) ∧ r 40 0 = R ∧ r 40 1 = ((fitL (tsW S ra ot R) 1000).length : Int) ∧ arr (r 43) (fitL (tsW S ra ot R) 1000)) := by
  unfold Gu_gather
  rw [pf_ok]
  refine wp_for (fun n i (s : zM) => Gu_gather_L7 n 9 24 i s) (fun i s => (∀ a, a ≠ 40 → a ≠ 43 → s a = m a) ∧ s 40 0 = R ∧ s 40 1 = ((fitL (tsW S ra ot R) i.toNat).length : Int) ∧ arr (s 43) (fitL (tsW S ra ot R) i.toNat)) _ 0 1000 ?_ ?_ 1000000 0 _ (by omega) (by omega) (by omega) ⟨fun a q1 q2 => upm_ne q1, by rw [ru2 (by decide)]; exact hR, ru3 rfl rfl, fun j hj => absurd hj (by show ¬ j < 0; omega)⟩
  · intro n s hI
    show wp (Gu_gather_B7 _ _ _ _ _) _
    unfold Gu_gather_B7
    rw [if_neg (by omega)]
    exact wp_some hI
  · intro n i s q0 q1 hI hrec
    obtain ⟨i1, i2, i3, i4⟩ := hI
    show wp (Gu_gather_B7 _ _ _ _ _) _
    unfold Gu_gather_B7 Gu_fits
    have ss : sv s 8 = S := by rw [← hS]; exact sv_eq fun k q => i1 _ (by omega) (by omega)
    have ei : ((i.toNat : Nat) : Int) = i := by omega
    have en : (i + 1).toNat = i.toNat + 1 := by omega
    have ll := fitL_len (f := tsW S ra ot R) i.toNat
    rw [if_pos q1, ts_C h ss q0 q1 i2 R1 (fun k k0 k1 => by rw [i1 42 (by decide) (by decide)]; exact hr k k0 k1) 1000000 0 (by omega) R0 (by omega), Option.bind_some, wI_ok (x := i + 1) (by omega) (by omega)]
    have eL : fitL (tsW S ra ot R) (i.toNat + 1) = if tsV S ra ot R i 1000000 0 = 0 then fitL (tsW S ra ot R) i.toNat else fitL (tsW S ra ot R) i.toNat ++ [i] := by
      show (if tsW S ra ot R ((i.toNat : Nat) : Int) = 0 then _ else _) = _
      rw [ei]
      rfl
    by_cases c : tsV S ra ot R i 1000000 0 = 0
    · rw [if_pos c]
      rw [if_pos c] at eL
      refine hrec s ⟨i1, i2, by rw [en, eL]; exact i3, by rw [en, eL]; exact i4⟩
    · rw [if_neg c, wr_ok (by omega) (by omega), pf_ok, ru1 (b := 40) (by decide), wI_ok (x := s 40 1 + 1) (by omega) (by omega)]
      rw [if_neg c] at eL
      refine hrec _ ⟨fun a q1 q2 => by rw [upm_ne q1, upm_ne q2, i1 a q1 q2], by rw [ru2 (by decide), ru1 (by decide)]; exact i2, ?_, ?_⟩
      · rw [en, eL, ru3 rfl rfl, i3, List.length_append, List.length_singleton]
        omega
      · rw [en, eL, upm_ne (by decide), upm_eq, i3]
        exact arr_push i4
def leL (d : Int → Int) (L : List Int) : Int := L.foldl (fun x w => if x = -1 then d w else min x (d w)) (-1)
def grL (d : Int → Int) (L : List Int) : Int := L.foldl (fun x w => max x (d w)) (-1)
theorem leL_app {d : Int → Int} {L : List Int} {w : Int} : leL d (L ++ [w]) = if leL d L = -1 then d w else min (leL d L) (d w) := by
  unfold leL
  rw [List.foldl_append]
  rfl
theorem grL_app {d : Int → Int} {L : List Int} {w : Int} : grL d (L ++ [w]) = max (grL d L) (d w) := by
  unfold grL
  rw [List.foldl_append]
  rfl
theorem leL_b {d : Int → Int} (hd : ∀ w, 0 ≤ w → w < 1000 → 0 ≤ d w ∧ d w ≤ 9) {f : Int → Int} : ∀ n : Nat, n ≤ 1000 → ((fitL f n).length = 0 ∧ leL d (fitL f n) = -1) ∨ (0 < (fitL f n).length ∧ 0 ≤ leL d (fitL f n) ∧ leL d (fitL f n) ≤ 9)
  | 0, _ => Or.inl ⟨rfl, rfl⟩
  | n + 1, hn => by
    have ih := leL_b hd (f := f) n (by omega)
    unfold fitL
    by_cases c : f (n : Int) = 0
    · rw [if_pos c]; exact ih
    · rw [if_neg c, leL_app, List.length_append, List.length_singleton]
      have h1 := hd n (by omega) (by omega)
      refine Or.inr ⟨by omega, ?_⟩
      by_cases e : leL d (fitL f n) = -1
      · rw [if_pos e]; exact h1
      · rw [if_neg e]; omega
theorem grL_b {d : Int → Int} (hd : ∀ w, 0 ≤ w → w < 1000 → 0 ≤ d w ∧ d w ≤ 9) {f : Int → Int} : ∀ n : Nat, n ≤ 1000 → -1 ≤ grL d (fitL f n) ∧ grL d (fitL f n) ≤ 9
  | 0, _ => ⟨Int.le_refl _, by show (-1 : Int) ≤ 9; omega⟩
  | n + 1, hn => by
    have ih := grL_b hd (f := f) n (by omega)
    unfold fitL
    by_cases c : f (n : Int) = 0
    · rw [if_pos c]; exact ih
    · rw [if_neg c, grL_app]
      have h1 := hd n (by omega) (by omega)
      omega
theorem take_s {L : List Int} {j : Nat} (h : j < L.length) : L.take (j + 1) = L.take j ++ [L.getD j 0] := by
  rw [List.take_succ, List.getD_eq_getElem?_getD, List.getElem?_eq_getElem h]
  rfl
theorem least_C {m : zM} {L : List Int} {k : Int} (hn : m 40 1 = (L.length : Int)) (hl : L.length ≤ 1000) (ha : arr (m 43) L) (hb : ∀ w ∈ L, 0 ≤ w ∧ w < 1000) : ∀ (n j : Nat), j ≤ L.length → L.length - j < n → Gu_least_L4 m n k (leL (fun w => dgV w k) (L.take j)) (j : Int) = some (leL (fun w => dgV w k) L)
  | 0, j, h1, h2 => by omega
  | n + 1, j, h1, h2 => by
    show Gu_least_B4 _ _ _ _ _ = _
    unfold Gu_least_B4
    rw [hn]
    by_cases c : j < L.length
    · have hm : L.getD j 0 ∈ L := by
        rw [List.getD_eq_getElem?_getD, List.getElem?_eq_getElem c]
        exact List.getElem_mem c
      have b := hb _ hm
      rw [if_pos (by omega), rd_ok (by omega) (by omega), ha j c, dgC b.1 b.2, Option.bind_some, wI_ok (by omega) (by omega)]
      have ih := least_C (k := k) hn hl ha hb n (j + 1) (by omega) (by omega)
      rw [take_s c, leL_app, show (((j + 1 : Nat) : Int)) = (j : Int) + 1 from by omega] at ih
      by_cases e : leL (fun w => dgV w k) (L.take j) = -1
      · rw [if_pos e]
        rw [if_pos e] at ih
        exact ih
      · rw [if_neg e]
        rw [if_neg e] at ih
        exact ih
    · rw [if_neg (by omega), List.take_of_length_le (by omega)]
theorem greatest_C {m : zM} {L : List Int} {k : Int} (hn : m 40 1 = (L.length : Int)) (hl : L.length ≤ 1000) (ha : arr (m 43) L) (hb : ∀ w ∈ L, 0 ≤ w ∧ w < 1000) : ∀ (n j : Nat), j ≤ L.length → L.length - j < n → Gu_greatest_L4 m n k (grL (fun w => dgV w k) (L.take j)) (j : Int) = some (grL (fun w => dgV w k) L)
  | 0, j, h1, h2 => by omega
  | n + 1, j, h1, h2 => by
    show Gu_greatest_B4 _ _ _ _ _ = _
    unfold Gu_greatest_B4
    rw [hn]
    by_cases c : j < L.length
    · have hm : L.getD j 0 ∈ L := by
        rw [List.getD_eq_getElem?_getD, List.getElem?_eq_getElem c]
        exact List.getElem_mem c
      have b := hb _ hm
      rw [if_pos (by omega), rd_ok (by omega) (by omega), ha j c, dgC b.1 b.2, Option.bind_some, wI_ok (by omega) (by omega)]
      have ih := greatest_C (k := k) hn hl ha hb n (j + 1) (by omega) (by omega)
      rw [take_s c, grL_app, show (((j + 1 : Nat) : Int)) = (j : Int) + 1 from by omega] at ih
      exact ih
    · rw [if_neg (by omega), List.take_of_length_le (by omega)]
/-- the model's loop over all tastes -/
theorem tastes_M {k104 : Int → Int → Int → Int → Option Int} {Z S mM : zM} {bk R x : Int} {ra ot : Int → Int} (h : GG Z S mM bk 0) (hR : mM 0 65 = R) (R0 : 0 ≤ R) (R1 : R ≤ 16) (hr : ∀ k, 0 ≤ k → k < R → (mM 43 k = ra k ∧ 0 ≤ ra k ∧ ra k < Z 0 1) ∧ (mM 44 k = ot k ∧ 0 ≤ ot k ∧ ot k < Z 0 1)) (x0 : 0 ≤ x) (x1 : x ≤ 6) {d : Int → Int} (hd : d = fun w => if x = 0 then 0 else dgV w ((x - 1) % 3)) : ∀ (e n j : Nat), j + e = 1000 → e < n → M_tastes_L22 k104 mM n x ((fitL (tsW S ra ot R) j).length : Int) (leL d (fitL (tsW S ra ot R) j)) (grL d (fitL (tsW S ra ot R) j)) (j : Int) = k104 x ((fitL (tsW S ra ot R) 1000).length : Int) (leL d (fitL (tsW S ra ot R) 1000)) (grL d (fitL (tsW S ra ot R) 1000)) := by
  have hdb : ∀ w, 0 ≤ w → w < 1000 → 0 ≤ d w ∧ d w ≤ 9 := by
    intro w w0 w1
    rw [hd]
    show 0 ≤ (if x = 0 then 0 else dgV w ((x - 1) % 3)) ∧ (if x = 0 then 0 else dgV w ((x - 1) % 3)) ≤ 9
    by_cases c : x = 0
    · rw [if_pos c]; omega
    · rw [if_neg c]; exact dg_b _ w0 w1
  intro e
  induction e with
  | zero =>
    intro n j hj hn
    obtain ⟨n, rfl⟩ : ∃ q, n = q + 1 := ⟨n - 1, by omega⟩
    have : j = 1000 := by omega
    subst this
    show M_tastes_B22 _ _ _ _ _ _ _ _ = _
    unfold M_tastes_B22
    rw [if_neg (by omega)]
  | succ e ih =>
    intro n j hj hn
    obtain ⟨n, rfl⟩ : ∃ q, n = q + 1 := ⟨n - 1, by omega⟩
    have ihn := ih n (j + 1) (by omega) (by omega)
    have lb := leL_b hdb (f := tsW S ra ot R) j (by omega)
    have ll := fitL_len (f := tsW S ra ot R) j
    show M_tastes_B22 _ _ _ _ _ _ _ _ = _
    unfold M_tastes_B22 M_isTaste
    rw [if_pos (by omega), ts_M h (by omega) (by omega) hR R1 hr 1000000 0 (by omega) R0 (by omega), Option.bind_some]
    rw [show ((j + 1 : Nat) : Int) = (j : Int) + 1 from by omega] at ihn
    have eL : fitL (tsW S ra ot R) (j + 1) = if tsW S ra ot R (j : Int) = 0 then fitL (tsW S ra ot R) j else fitL (tsW S ra ot R) j ++ [(j : Int)] := rfl
    rw [eL] at ihn
    by_cases c : tsV S ra ot R (j : Int) 1000000 0 = 0
    · rw [if_pos c, wI_ok (by omega) (by omega)]
      rw [if_pos (show tsW S ra ot R (j : Int) = 0 from c)] at ihn
      exact ihn
    · rw [if_neg c]
      rw [if_neg (show ¬ tsW S ra ot R (j : Int) = 0 from c), leL_app, grL_app, List.length_append, List.length_singleton, show (((fitL (tsW S ra ot R) j).length + 1 : Nat) : Int) = ((fitL (tsW S ra ot R) j).length : Int) + 1 from by omega] at ihn
      have dj := hdb j (by omega) (by omega)
      have key : M_tastes_b60 k104 (M_tastes_L22 k104 mM n) x ((fitL (tsW S ra ot R) j).length : Int) (leL d (fitL (tsW S ra ot R) j)) (grL d (fitL (tsW S ra ot R) j)) (j : Int) (d (j : Int)) mM = k104 x ((fitL (tsW S ra ot R) 1000).length : Int) (leL d (fitL (tsW S ra ot R) 1000)) (grL d (fitL (tsW S ra ot R) 1000)) := by
        rw [← ihn]
        unfold M_tastes_b60 M_tastes_b72 M_tastes_b78
        have gt : ∀ y, (if grL d (fitL (tsW S ra ot R) j) < d (j : Int) then M_tastes_L22 k104 mM n x (wI (((fitL (tsW S ra ot R) j).length : Int) + 1)) y (d (j : Int)) (wI ((j : Int) + 1)) else M_tastes_L22 k104 mM n x (wI (((fitL (tsW S ra ot R) j).length : Int) + 1)) y (grL d (fitL (tsW S ra ot R) j)) (wI ((j : Int) + 1))) = M_tastes_L22 k104 mM n x (((fitL (tsW S ra ot R) j).length : Int) + 1) y (max (grL d (fitL (tsW S ra ot R) j)) (d (j : Int))) ((j : Int) + 1) := by
          intro y
          rw [wI_ok (by omega) (by omega), wI_ok (by omega) (by omega)]
          by_cases q : grL d (fitL (tsW S ra ot R) j) < d (j : Int)
          · rw [if_pos q, show max (grL d (fitL (tsW S ra ot R) j)) (d (j : Int)) = d (j : Int) from by omega]
          · rw [if_neg q, show max (grL d (fitL (tsW S ra ot R) j)) (d (j : Int)) = grL d (fitL (tsW S ra ot R) j) from by omega]
        rw [gt, gt]
        rcases lb with ⟨l0, l1⟩ | ⟨l0, l1, l2⟩
        · rw [if_pos (show ((fitL (tsW S ra ot R) j).length : Int) = 0 by omega), if_pos l1]
        · rw [if_neg (show ¬ ((fitL (tsW S ra ot R) j).length : Int) = 0 by omega), if_neg (show ¬ leL d (fitL (tsW S ra ot R) j) = -1 by omega)]
          by_cases q : d (j : Int) < leL d (fitL (tsW S ra ot R) j)
          · rw [if_pos q, show min (leL d (fitL (tsW S ra ot R) j)) (d (j : Int)) = d (j : Int) from by omega]
          · rw [if_neg q, show min (leL d (fitL (tsW S ra ot R) j)) (d (j : Int)) = leL d (fitL (tsW S ra ot R) j) from by omega]
      by_cases q : x = 0
      · rw [if_pos q]
        have : d (j : Int) = 0 := by rw [hd]; exact if_pos q
        rw [this] at key
        exact key
      · rw [if_neg q, wI_ok (by omega) (by omega), rmI_n (by omega) (by omega) (by decide) (by decide), dgM (by omega) (by omega), Option.bind_some]
        have : d (j : Int) = dgV (j : Int) ((x - 1) % 3) := by rw [hd]; exact if_neg q
        rw [this] at key
        exact key
theorem rs_tastes {mC mM : zM} {x : Int} (h : Rel mC mM) : wp (C_tastes x mC) (fun a => wp (M_tastes x mM) (fun b => a.1 = b ∧ Rel a.2 mM)) := by
  obtain ⟨z, Z, S, b, hr⟩ := h.toZ
  obtain ⟨hz, h12, hs, hg, hu, hZ, hS⟩ := id hr
  obtain ⟨w1, w2, w3, w4⟩ := id hs.2.2.2.1
  rw [hZ] at w4
  unfold C_tastes M_tastes
  rw [is_ok, Option.bind_some]
  by_cases c : 0 ≤ x ∧ x ≤ 6
  · rw [if_pos c, if_neg n10, if_neg (show ¬ x < 0 by omega), if_neg (show ¬ 6 < x by omega)]
    have hrM : ∀ k, 0 ≤ k → k < mC 40 0 → (mM 43 k = mM 43 k ∧ 0 ≤ mM 43 k ∧ mM 43 k < Z 0 1) ∧ (mM 44 k = mM 44 k ∧ 0 ≤ mM 44 k ∧ mM 44 k < Z 0 1) := fun k k0 k1 => ⟨⟨rfl, (w4 k k0 k1).1.2⟩, rfl, (w4 k k0 k1).2.2⟩
    refine wp_bm (wp_gather hg hS rfl w2 w3 w4) (fun r ⟨r1, r2, r3, r4⟩ => ?_)
    have lb := fitL_len (f := tsW S (mM 43) (mM 44) (mC 40 0)) 1000
    have fb : ∀ w ∈ fitL (tsW S (mM 43) (mM 44) (mC 40 0)) 1000, 0 ≤ w ∧ w < 1000 := fitL_b 1000
    have tm := fun k104 d hd => tastes_M (k104 := k104) (x := x) hg w1.symm w2 w3 hrM c.1 c.2 (d := d) hd 1000 1000000 0 (by omega) (by omega)
    have R : Rel r mM := by
      have rq : ∀ a, a ≠ 40 → a ≠ 43 → r a = mC a := r1
      refine h.io ?_ ?_ ?_ ?_ ?_ ?_ ?_ ?_ ?_ ⟨rfl, rfl, rfl, rfl⟩ (fun a _ _ => rfl) (fun u _ _ a _ _ i _ _ => rfl)
      · rw [rq 3 (by decide) (by decide), rq 2 (by decide) (by decide)]; exact hs.1
      · rw [rq 1 (by decide) (by decide)]; exact hs.2.1
      · intro z' hz' h12'
        have ez : z' = z := by rw [h12] at h12'; omega
        subst ez
        unfold RL
        rw [r2, rq 42 (by decide) (by decide)]
        exact hs.2.2.2.1
      · unfold RI
        rw [rq 52 (by decide) (by decide), rq 53 (by decide) (by decide)]
        exact hs.2.2.2.2.1
      · rw [rq 54 (by decide) (by decide)]; exact hs.2.2.2.2.2.1
      · exact rq 0 (by decide) (by decide)
      · exact rq 7 (by decide) (by decide)
      · exact fun a a1 a2 => rq a (by omega) (by omega)
      · exact fun z' _ _ a a1 _ _ => rq a (by omega) (by omega)
    have c0 : ((fitL (tsW S (mM 43) (mM 44) (mC 40 0)) 0).length : Int) = 0 := rfl
    have go : ∀ v, M_tastes_L22 (fun x1_5 x2_5 x3_5 x4_5 => (if x1_5 = 0 then some x2_5 else (if x1_5 < 4 then some x3_5 else some x4_5))) mM 1000000 x 0 (-1) (-1) 0 = some v → ∀ p : Option Int, p = some v → wp (p.bind (fun y => some (y, r))) (fun a => wp (M_tastes_L22 (fun x1_5 x2_5 x3_5 x4_5 => (if x1_5 = 0 then some x2_5 else (if x1_5 < 4 then some x3_5 else some x4_5))) mM 1000000 x 0 (-1) (-1) 0) (fun b => a.1 = b ∧ Rel a.2 mM)) := by
      intro v hv p hp
      rw [hp, hv]
      exact wp_some (wp_some ⟨rfl, R⟩)
    by_cases q0 : x = 0
    · rw [if_pos q0]
      exact go (r 40 1) (by
        have := tm (fun x1_5 x2_5 x3_5 x4_5 => (if x1_5 = 0 then some x2_5 else (if x1_5 < 4 then some x3_5 else some x4_5))) _ rfl
        rw [if_pos q0, ← r3] at this
        exact this) (some (r 40 1)) rfl
    · rw [if_neg q0]
      by_cases q3 : 3 < x
      · rw [if_pos q3, wI_ok (x := x - 1) (by omega) (by omega), wI_ok (by omega) (by omega)]
        refine go _ ?_ (Gu_greatest (x - 1 - 3) r) (greatest_C r3 (by omega) r4 fb 1000000 0 (by omega) (by omega))
        have := tm (fun x1_5 x2_5 x3_5 x4_5 => (if x1_5 = 0 then some x2_5 else (if x1_5 < 4 then some x3_5 else some x4_5))) (fun w => dgV w (x - 1 - 3)) (by funext w; rw [if_neg q0, show (x - 1) % 3 = x - 1 - 3 from by omega])
        rw [if_neg q0, if_neg (show ¬ x < 4 by omega)] at this
        exact this
      · rw [if_neg q3, wI_ok (x := x - 1) (by omega) (by omega)]
        refine go _ ?_ (Gu_least (x - 1) r) (least_C r3 (by omega) r4 fb 1000000 0 (by omega) (by omega))
        have := tm (fun x1_5 x2_5 x3_5 x4_5 => (if x1_5 = 0 then some x2_5 else (if x1_5 < 4 then some x3_5 else some x4_5))) (fun w => dgV w (x - 1)) (by funext w; rw [if_neg q0, show (x - 1) % 3 = x - 1 from by omega])
        rw [if_neg q0, if_pos (show x < 4 by omega)] at this
        exact this
  · rw [if_neg c, if_pos p00]
    by_cases q : x < 0
    · rw [if_pos q]
      exact wp_some (wp_some ⟨rfl, h⟩)
    · rw [if_neg q, if_pos (by omega)]
      exact wp_some (wp_some ⟨rfl, h⟩)
