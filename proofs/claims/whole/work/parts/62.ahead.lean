/-! looking ahead -/
/-- what both have of the hours to come: state T, in cells 16 .. 23 and in layer 1 -/
def RelT (z : Nat) (Z : zM) (b : Int) (mC0 mM0 mC mM T : zM) : Prop := eqO [26, 27, 29, z + 13, z + 16, 16, 17, 18, 19, 20, 21, 22, 23] mC0 mC ∧ frA 1 mM0 mM ∧ sv mC 16 = T ∧ GG Z T mM b 1
theorem rs_ahead {mC mM : zM} {z : Nat} {Z S : zM} {b : Int} (h : RelZ mC mM z Z S b) : wp (St_copyFrom 16 8 mC) (fun mC' => wp (M_copies 1 0 mM) (fun mM' => RelT z Z b mC mM mC' mM' S)) := by
  obtain ⟨hz, h12, hs, hg, hu, hZ, hS⟩ := id h
  refine wp_mono (wp_copyFrom (o := 16) (p := 8) (by decide)) (fun m1 ⟨e1, e2⟩ => ?_)
  refine wp_mono (wp_copies hg.2.1 hg.nb hg.ng (to := 1) (by decide) (by decide) (by decide) (by decide) (by decide)) (fun m2 ⟨q1, q2⟩ => ?_)
  refine ⟨e2.mono (by simp), q2.A, by rw [e1, hS], hg.1.same (fun a a1 a2 => q2.1 a (by omega)), q1, by rw [q2.1 0 (by omega)]; exact hg.2.2.1, hg.2.2.2.1, by decide, by decide⟩
theorem RelT.rel {mC mM mC' mM' : zM} {z : Nat} {Z S T : zM} {b : Int} {l : List Nat} (h : RelZ mC mM z Z S b) (k : eqO l mC mC') (hl : ∀ a ∈ l, a ∈ [26, 27, 29, z + 13, z + 16, 16, 17, 18, 19, 20, 21, 22, 23]) (f : frA 1 mM mM') : Rel mC' mM' := by
  obtain ⟨hz, h12, hs, hg, hu, hZ, hS⟩ := h
  subst hZ hS
  have hb := hg.2.2.1
  subst hb
  exact Rel.quietO hz hs hg hu (k.mono hl) (by simp) f
theorem toSee_ok {Z S mM mC : zM} {bk : Int} (h : GG Z S mM bk 0) (hS : sv mC 8 = S) : C_hoursToSee mC = some (min 100 (24000 - mom S)) := by
  have d := h.dy
  have r := h.hr
  unfold C_hoursToSee St_moment mom
  rw [Option.bind_some, rS00 hS, rS01 hS, wI_ok (x := S 0 0 * 24) (by omega) (by omega), wI_ok (x := S 0 0 * 24 + S 0 1) (by omega) (by omega), wI_ok (x := 23999 - (S 0 0 * 24 + S 0 1)) (by omega) (by omega), wI_ok (by omega) (by omega)]
  congr 1
  omega
/-- weighed and chosen, in the class -/
theorem wp_wc {Z T mM m : zM} {z : Nat} {bk : Int} {Q : zM → Prop} {mC0 : zM} (h : GG Z T mM bk 1) (hz : z = 55 ∨ z = 72) (h12 : m 0 12 = (z : Int) + 1) (hZ : zv m z = Z) (hT : sv m 16 = T) (hq : ∀ m', eqO [26, 27, 29, z + 13, z + 16] m m' → (∀ b : Nat, (b : Int) < Z 0 0 → m' 27 b = akV Z T b) → Q m') : wp ((Ke_weigh z 16 m).bind (fun r3 => mro kdC 10 (r3 0 12) (fun zz6 => mro kdC 10 (r3 0 12) (fun zz7 => Ke_choose zz6 16 (r3 zz7 0) r3)))) Q := by
  have n1 := h.nb
  refine wp_bm (wp_weigh h hZ hT (by omega) (by omega) (by omega)) (fun m1 ⟨a1, a2⟩ => ?_)
  have z1 : zv m1 z = Z := by rw [← hZ]; exact zv_eq fun k q1 q2 => a1 _ (by simp; omega)
  have s1 : sv m1 16 = T := by rw [← hT]; exact sv_eq fun k q => a1 _ (by simp; omega)
  have e12 : m1 0 12 = (z : Int) + 1 := by rw [a1 0 (by simp)]; exact h12
  rw [mro_ok e12 (kdz hz), mro_ok e12 (kdz hz), show m1 z 0 = Z 0 0 from by rw [rZ0 z1]]
  refine wp_mono (wp_choose h z1 s1 (by omega) (by omega) (by omega) (by rw [rZ0 z1]) n1.1 (by omega) a2) (fun m2 ⟨b1, b2, _⟩ => ?_)
  exact hq m2 ((a1.mono (by simp)).trans (b1.mono (by simp))) b2
theorem bind_as {α β γ : Type} {p : Option α} {f : α → Option β} {g : β → Option γ} : (p.bind f).bind g = p.bind (fun x => (f x).bind g) := by
  cases p <;> rfl
/-- one more hour to come, played in both -/
theorem rs_playT {mC0 mM0 mC mM T : zM} {z : Nat} {Z : zM} {b : Int} (hz : z = 55 ∨ z = 72) (hZ0 : zv mC0 z = Z) (h : RelT z Z b mC0 mM0 mC mM T) (hm : mom T < 23999) : wp (Ke_playHour z 16 mC) (fun a => wp (M_asking 1 mM) (fun r => wp (M_isOver 1 r.2) (fun mM' => RelT z Z b mC0 mM0 a.2 mM' (playS Z T)))) := by
  obtain ⟨k, f, hT, hg⟩ := h
  have hZ : zv mC z = Z := by rw [← hZ0]; exact zv_eq fun q q1 q2 => k _ (by simp; omega)
  refine wp_mono (wp_playHour hg hZ hT (by omega) (by omega)) (fun a ⟨a1, a2, a3⟩ => wp_mono (wp_hourM hg) (fun r ⟨r1, r2⟩ => wp_mono (r2 hm) (fun mM' ⟨q1, q2⟩ => ?_)))
  exact ⟨k.trans (a3.mono (by simp)), f.trans q2, a2, q1⟩
theorem asks_L {mC0 mM0 : zM} {z : Nat} {Z S0 : zM} {b N x : Int} (h0 : RelZ mC0 mM0 z Z S0 b) (x0 : 0 ≤ x) (x1 : x < Z 0 0) (N1 : N ≤ 100) : ∀ (d n k : Nat) (i : Int) (mC mM T : zM), i + (d : Int) = N → 0 ≤ i → d < n → d < k → RelT z Z b mC0 mM0 mC mM T → mom T + (d : Int) ≤ 23999 → wp (C_asks_L38 (fun x1_14 m15 => mro kdC 10 (m15 0 12) (fun zz16 =>
  (Ke_weigh zz16 16 m15).bind (fun r17 =>
  mro kdC 10 (r17 0 12) (fun zz20 =>
  mro kdC 10 (r17 0 12) (fun zz21 =>
  (Ke_choose zz20 16 (r17 zz21 0) r17).bind (fun r23 =>
  rd 27 6 x1_14 r23 (fun y26 =>
  some (y26, r23)))))))) n x N i mC) (fun a => wp (M_asks_L29 k x N i mM) (fun r => a.1 = r.1 ∧ Rel a.2 r.2)) := by
  obtain ⟨hz, h12, hs, hg0, hu, hZ0, hS⟩ := id h0
  intro d
  induction d with
  | zero =>
    intro n k i mC mM T hi i0 hn hk h hm
    obtain ⟨n, rfl⟩ : ∃ q, n = q + 1 := ⟨n - 1, by omega⟩
    obtain ⟨k, rfl⟩ : ∃ q, k = q + 1 := ⟨k - 1, by omega⟩
    obtain ⟨kk, f, hT, hg⟩ := id h
    have n1 := hg.nb
    have e12 : mC 0 12 = (z : Int) + 1 := by rw [kk 0 (by simp)]; exact h12
    have hZ : zv mC z = Z := by rw [← hZ0]; exact zv_eq fun q q1 q2 => kk _ (by simp; omega)
    show wp (C_asks_B38 _ _ _ _ _ _) (fun a => wp (M_asks_B29 _ _ _ _ _) _)
    unfold C_asks_B38 M_asks_B29
    rw [if_neg (by omega), if_neg (by omega)]
    show wp (mro kdC 10 (mC 0 12) _) _
    rw [mro_ok e12 (kdz hz)]
    have key : wp ((Ke_weigh z 16 mC).bind (fun r3 => mro kdC 10 (r3 0 12) (fun zz6 => mro kdC 10 (r3 0 12) (fun zz7 => Ke_choose zz6 16 (r3 zz7 0) r3)))) (fun m' => eqO [26, 27, 29, z + 13, z + 16] mC m' ∧ ∀ b : Nat, (b : Int) < Z 0 0 → m' 27 b = akV Z T b) := wp_wc (mC0 := mC) hg hz e12 hZ hT (fun m' q1 q2 => ⟨q1, q2⟩)
    have e : ((Ke_weigh z 16 mC).bind (fun r17 => mro kdC 10 (r17 0 12) (fun zz20 => mro kdC 10 (r17 0 12) (fun zz21 => (Ke_choose zz20 16 (r17 zz21 0) r17).bind (fun r23 => rd 27 6 x r23 (fun y26 => some (y26, r23))))))) = ((Ke_weigh z 16 mC).bind (fun r3 => mro kdC 10 (r3 0 12) (fun zz6 => mro kdC 10 (r3 0 12) (fun zz7 => Ke_choose zz6 16 (r3 zz7 0) r3)))).bind (fun r23 => rd 27 6 x r23 (fun y26 => some (y26, r23))) := by
      rw [bind_as]
      congr 1
      funext r
      unfold mro
      split
      · rfl
      · rfl
    rw [e]
    refine wp_bm key (fun m' ⟨q1, q2⟩ => ?_)
    rw [rd_ok x0 (by omega)]
    refine wp_some (wp_bm (wp_asking hg) (fun r ⟨r1, r2, r3, r4⟩ => ?_))
    rw [rd_ok x0 (by omega)]
    have w := (r4 x.toNat (by omega)).1
    have w2 := q2 x.toNat (by omega)
    rw [show ((x.toNat : Nat) : Int) = x from by omega] at w w2
    refine wp_some ⟨by rw [w, w2], ?_⟩
    exact RelT.rel (T := T) h0 (kk.trans (q1.mono (by simp))) (by simp) (f.trans r3)
  | succ d ih =>
    intro n k i mC mM T hi i0 hn hk h hm
    obtain ⟨n, rfl⟩ : ∃ q, n = q + 1 := ⟨n - 1, by omega⟩
    obtain ⟨k, rfl⟩ : ∃ q, k = q + 1 := ⟨k - 1, by omega⟩
    obtain ⟨kk, f, hT, hg⟩ := id h
    have e12 : mC 0 12 = (z : Int) + 1 := by rw [kk 0 (by simp)]; exact h12
    show wp (C_asks_B38 _ _ _ _ _ _) (fun a => wp (M_asks_B29 _ _ _ _ _) _)
    unfold C_asks_B38 M_asks_B29
    rw [if_pos (by omega), if_pos (by omega), mro_ok e12 (kdz hz), wI_ok (x := i + 1) (by omega) (by omega)]
    refine wp_bm (rs_playT hz hZ0 h (by omega)) (fun a ⟨r, e, mM', e2, hr⟩ => ?_)
    rw [e, Option.bind_some, e2, Option.bind_some]
    exact ih n k (i + 1) a.2 mM' (playS Z T) (by omega) (by omega) (by omega) (by omega) hr (by rw [play_mom hg]; omega)
theorem rs_asks {mC mM : zM} {x n : Int} (h : Rel mC mM) : wp (C_asks x n mC) (fun a => wp (M_asks x n mM) (fun b => a.1 = b.1 ∧ Rel a.2 b.2)) := by
  obtain ⟨z, Z, S, b, hr⟩ := h.toZ
  obtain ⟨hz, h12, hs, hg, hu, hZ, hS⟩ := id hr
  unfold C_asks M_asks
  rw [mro_ok h12 (kdz hz), isBeast_ok hZ, MG_beast hg, Option.bind_some, Option.bind_some, toSee_ok hg hS, ahead_ok hg (by decide) (by decide), Option.bind_some, Option.bind_some]
  by_cases c : 0 ≤ x ∧ x < Z 0 0
  · rw [if_pos c, if_neg n10, if_neg n10]
    by_cases d : 0 ≤ n ∧ n ≤ 99 ∧ n ≤ 23999 - mom S
    · rw [if_neg (show ¬ n < 0 by omega), if_pos (show n < min 100 (24000 - mom S) by omega), if_pos d, if_neg n10]
      refine wp_bm (rs_ahead hr) (fun mC1 ⟨mM1, eM, hr1⟩ => ?_)
      rw [eM, Option.bind_some]
      exact asks_L hr c.1 c.2 (by omega) n.toNat 1000000 1000000 0 mC1 mM1 S (by omega) (by omega) (by omega) (by omega) hr1 (by omega)
    · rw [if_neg d, if_pos p00]
      by_cases e : n < 0
      · rw [if_pos e]
        exact wp_some (wp_some ⟨rfl, h⟩)
      · rw [if_neg e, if_neg (show ¬ n < min 100 (24000 - mom S) by omega)]
        exact wp_some (wp_some ⟨rfl, h⟩)
  · rw [if_neg c, if_pos p00, if_pos p00]
    exact wp_some (wp_some ⟨rfl, h⟩)
/-! alone -/
def lonV (Z T : zM) : Nat → Int → Int
  | 0, _ => -1
  | n + 1, i => if i < Z 0 0 then (if awV Z T i = true ∧ akV Z T i.toNat = -1 then i else lonV Z T n (i + 1)) else -1
theorem lon_b {Z T : zM} : ∀ (n : Nat) (i : Int), 0 ≤ i → lonV Z T n i = -1 ∨ (i ≤ lonV Z T n i ∧ lonV Z T n i < Z 0 0)
  | 0, _, _ => Or.inl rfl
  | n + 1, i, h0 => by
    unfold lonV
    by_cases c : i < Z 0 0
    · rw [if_pos c]
      by_cases d : awV Z T i = true ∧ akV Z T i.toNat = -1
      · rw [if_pos d]; omega
      · rw [if_neg d]
        have := lon_b (Z := Z) (T := T) n (i + 1) (by omega)
        omega
    · rw [if_neg c]; exact Or.inl rfl
theorem lon_C {m Z T : zM} {z : Nat} (hZ : zv m z = Z) (n6 : Z 0 0 ≤ 6) (hA : ∀ b : Nat, (b : Int) < Z 0 0 → m 27 b = akV Z T b) : ∀ (n : Nat) (i : Int), 0 ≤ i → Z 0 0 - i < (n : Int) → i ≤ Z 0 0 → Ke_firstLonely_L2 m n z (T 0 1) i = some (lonV Z T n i)
  | 0, i, h0, hn, hg => by omega
  | n + 1, i, h0, hn, hg => by
    show Ke_firstLonely_B2 _ _ _ _ _ = some (if i < Z 0 0 then _ else _)
    unfold Ke_firstLonely_B2
    rw [rZ0 hZ]
    by_cases c : i < Z 0 0
    · have e := hA i.toNat (by omega)
      rw [show ((i.toNat : Nat) : Int) = i from by omega] at e
      rw [if_pos c, if_pos c, awake_ok hZ h0 (by omega), Option.bind_some, rd_ok h0 (by omega), e, wI_ok (x := i + 1) (by omega) (by omega)]
      have ih := lon_C hZ n6 hA n (i + 1) (by omega) (by omega) (by omega)
      by_cases q : Z 2 i ≤ T 0 1 ∧ T 0 1 ≤ Z 3 i
      · rw [if_pos q, if_neg n10]
        by_cases w : akV Z T i.toNat = -1
        · rw [if_pos w, if_pos ⟨decide_eq_true q, w⟩]
        · rw [if_neg w, if_neg (fun t => w t.2)]
          exact ih
      · rw [if_neg q, if_pos p00, if_neg (fun t => q (of_decide_eq_true t.1))]
        exact ih
    · rw [if_neg c, if_neg c]
theorem lon_M {k70 : Int → Int → Int → zM → Option (Int × zM)} {k86 : Int → Int → zM → Option (Int × zM)} {m Z T T' : zM} {bk x y : Int} (h : GG Z T' m bk 1) (ha : ∀ i, awV Z T' i = awV Z T i) (hA : ∀ b : Nat, (b : Int) < Z 0 0 → m 39 b = akV Z T b) : ∀ (n : Nat) (i : Int), 0 ≤ i → Z 0 0 - i < (n : Int) → i ≤ Z 0 0 → M_alone_L38 k70 k86 n x y i m = (if lonV Z T n i = -1 then k86 x y m else k70 x y (lonV Z T n i) m)
  | 0, i, h0, hn, hg => by omega
  | n + 1, i, h0, hn, hg => by
    have n1 := h.nb
    have n3 := h.bk
    show M_alone_B38 _ _ _ _ _ _ _ = _
    unfold M_alone_B38 lonV
    rw [h.2.2.1, rd_ok (by omega) (by omega), h.1.1.1]
    by_cases c : i < Z 0 0
    · have e := hA i.toNat (by omega)
      rw [show ((i.toNat : Nat) : Int) = i from by omega] at e
      rw [if_pos c, if_pos c, MG_awake h h0 c, Option.bind_some, ha, rd_ok h0 (by omega), e, wI_ok (x := i + 1) (by omega) (by omega)]
      have ih := lon_M (k70 := k70) (k86 := k86) (x := x) (y := y) h ha hA n (i + 1) (by omega) (by omega) (by omega)
      by_cases q : awV Z T i = true
      · rw [if_pos q, if_neg n10]
        by_cases w : akV Z T i.toNat = -1
        · rw [if_pos w, if_pos (And.intro q w), if_neg (show ¬ i = -1 by omega)]
        · rw [if_neg w, if_neg (show ¬ (awV Z T i = true ∧ akV Z T i.toNat = -1) from fun t => w t.2)]
          exact ih
      · rw [if_neg q, if_pos p00, if_neg (show ¬ (awV Z T i = true ∧ akV Z T i.toNat = -1) from fun t => q t.1)]
        exact ih
    · rw [if_neg c, if_neg c, if_pos rfl]
theorem alone_L {mC0 mM0 : zM} {z : Nat} {Z S0 : zM} {b N x : Int} (h0 : RelZ mC0 mM0 z Z S0 b) (hN : N = min 100 (24000 - mom S0)) (hx : x = 0 ∨ x = 1) : ∀ (d n k : Nat) (i : Int) (mC mM T : zM), i + (d : Int) = N → 0 ≤ i → d < n → d < k → eqO [26, 27, 29, z + 13, z + 16, 16, 17, 18, 19, 20, 21, 22, 23] mC0 mC → frA 1 mM0 mM → (i < N → RelT z Z b mC0 mM0 mC mM T ∧ mom T = mom S0 + i) → wp (C_alone_L29 (fun x1_7 x3_7 x4_7 m8 => (if x1_7 = 0 then
  some (x3_7, m8)
  else some (x4_7, m8))) n x N i mC) (fun a => wp (M_alone_L19 (fun x1_8 x2_8 x3_8 m9 => (if x1_8 = 0 then
  some (x2_8, m9)
  else some (x3_8, m9))) k x i mM) (fun r => a.1 = r.1 ∧ Rel a.2 r.2)) := by
  obtain ⟨hz, h12, hs, hg0, hu, hZ0, hS⟩ := id h0
  have d0 := hg0.dy
  have r0 := hg0.hr
  intro d
  induction d with
  | zero =>
    intro n k i mC mM T hi i0 hn hk kk f _
    obtain ⟨n, rfl⟩ : ∃ q, n = q + 1 := ⟨n - 1, by omega⟩
    obtain ⟨k, rfl⟩ : ∃ q, k = q + 1 := ⟨k - 1, by omega⟩
    have hgN : GG Z S0 mM b 0 := hg0.1.same (fun a a1 a2 => f.1 a (by omega)) |> fun q => ⟨q, hg0.2.1.frame hg0.nb.2 hg0.ng.2 f (by decide), by rw [f.1 0 (by omega)]; exact hg0.2.2.1, hg0.2.2.2⟩
    show wp (C_alone_B29 _ _ _ _ _ _) (fun a => wp (M_alone_B19 _ _ _ _ _) _)
    unfold C_alone_B29 M_alone_B19
    rw [if_neg (by omega), ahead_ok hgN (by decide) (by decide), Option.bind_some, if_neg (show ¬ (0 ≤ i ∧ i ≤ 99 ∧ i ≤ 23999 - mom S0) by omega), if_pos p00]
    exact wp_some (wp_some ⟨rfl, RelT.rel (T := T) h0 kk (by simp) f⟩)
  | succ d ih =>
    intro n k i mC mM T hi i0 hn hk _ _ hT0
    obtain ⟨n, rfl⟩ : ∃ q, n = q + 1 := ⟨n - 1, by omega⟩
    obtain ⟨k, rfl⟩ : ∃ q, k = q + 1 := ⟨k - 1, by omega⟩
    obtain ⟨h, hmo⟩ := hT0 (by omega)
    obtain ⟨kk, f, hT, hg⟩ := id h
    have n1 := hg.nb
    have e12 : mC 0 12 = (z : Int) + 1 := by rw [kk 0 (by simp)]; exact h12
    have hZ : zv mC z = Z := by rw [← hZ0]; exact zv_eq fun q q1 q2 => kk _ (by simp; omega)
    have hgN : GG Z S0 mM b 0 := ⟨hg0.1.same (fun a a1 a2 => f.1 a (by omega)), hg0.2.1.frame hg0.nb.2 hg0.ng.2 f (by decide), by rw [f.1 0 (by omega)]; exact hg0.2.2.1, hg0.2.2.2⟩
    show wp (C_alone_B29 _ _ _ _ _ _) (fun a => wp (M_alone_B19 _ _ _ _ _) _)
    unfold C_alone_B29 M_alone_B19
    rw [if_pos (by omega), ahead_ok hgN (by decide) (by decide), Option.bind_some, if_pos (show (0 ≤ i ∧ i ≤ 99 ∧ i ≤ 23999 - mom S0) by omega), if_neg n10, mro_ok e12 (kdz hz)]
    refine wp_bm (wp_weigh hg hZ hT (by omega) (by omega) (by omega)) (fun m1 ⟨a1, a2⟩ => ?_)
    have z1 : zv m1 z = Z := by rw [← hZ]; exact zv_eq fun k q1 q2 => a1 _ (by simp; omega)
    have s1 : sv m1 16 = T := by rw [← hT]; exact sv_eq fun k q => a1 _ (by simp; omega)
    have f12 : m1 0 12 = (z : Int) + 1 := by rw [a1 0 (by simp)]; exact e12
    rw [mro_ok f12 (kdz hz), mro_ok f12 (kdz hz), show m1 z 0 = Z 0 0 from by rw [rZ0 z1]]
    refine wp_bm (wp_choose hg z1 s1 (by omega) (by omega) (by omega) (by rw [rZ0 z1]) n1.1 (by omega) a2) (fun m2 ⟨b1, b2, _⟩ => ?_)
    have z2 : zv m2 z = Z := by rw [← z1]; exact zv_eq fun k q1 q2 => b1 _ (by simp; omega)
    have s2 : sv m2 16 = T := by rw [← s1]; exact sv_eq fun k q => b1 _ (by simp; omega)
    have g12 : m2 0 12 = (z : Int) + 1 := by rw [b1 0 (by simp)]; exact f12
    have k2 : eqO [26, 27, 29, z + 13, z + 16, 16, 17, 18, 19, 20, 21, 22, 23] mC0 m2 := (kk.trans (a1.mono (by simp))).trans (b1.mono (by simp))
    rw [mro_ok g12 (kdz hz), mro_ok g12 (kdz hz), show m2 16 1 = T 0 1 from rS01 s2]
    unfold Ke_firstLonely
    rw [lon_C z2 n1.2 b2 1000000 0 (by omega) (by omega) (by omega), Option.bind_some]
    obtain ⟨r, eA, r1, r2, r3, r4⟩ := wp_asking hg
    have sa := stl_ag hg (Z 0 0).toNat (by omega)
    have lm : ∀ k70 k86, M_alone_L38 k70 k86 1000000 x i 0 r.2 = (if lonV Z T 1000000 0 = -1 then k86 x i r.2 else k70 x i (lonV Z T 1000000 0) r.2) := fun k70 k86 => lon_M r2 (fun j => ag_aw sa.1) (fun b hb => (r4 b hb).1) 1000000 0 (by omega) (by omega) (by omega)
    rw [eA, Option.bind_some, lm]
    by_cases c : lonV Z T 1000000 0 = -1
    · rw [if_pos c, if_pos c]
      refine wp_bm (wp_settle hg z2 s2 (by omega) (by omega) (by omega) (by rw [rZ0 z2]; exact ⟨rfl, rfl, rfl⟩) b2) (fun r' ⟨c1, c2, c3⟩ => ?_)
      have e := stl_mom hg
      refine wp_bm (wp_passHour c2 (by rw [e.2]; exact hg.hr) (by rw [e.1]; exact hg.dy)) (fun m3 ⟨d1, d2⟩ => ?_)
      obtain ⟨m4, eO, q1, q2⟩ := wp_isOver r2
      rw [eO, Option.bind_some, wI_ok (x := i + 1) (by omega) (by omega)]
      have k3 : eqO [26, 27, 29, z + 13, z + 16, 16, 17, 18, 19, 20, 21, 22, 23] mC0 m3 := (k2.trans (c3.mono (by simp))).trans (d2.mono (by simp))
      have f3 : frA 1 mM0 m4 := (f.trans r3).trans q1.A
      refine ih n k (i + 1) m3 m4 (playS Z T) (by omega) (by omega) (by omega) (by omega) k3 f3 (fun hlt => ⟨⟨k3, f3, d1, ?_⟩, by rw [play_mom hg]; omega⟩)
      exact q2 (by rw [e.1, e.2]; exact (show mom T < 23999 by omega))
    · rw [if_neg c, if_neg c]
      have R : Rel m2 r.2 := RelT.rel (T := T) h0 k2 (by simp) (f.trans r3)
      by_cases q : x = 0
      · simp only [if_pos q]
        exact wp_some (wp_some ⟨rfl, R⟩)
      · simp only [if_neg q]
        exact wp_some (wp_some ⟨rfl, R⟩)
theorem rs_alone {mC mM : zM} {x : Int} (h : Rel mC mM) : wp (C_alone x mC) (fun a => wp (M_alone x mM) (fun b => a.1 = b.1 ∧ Rel a.2 b.2)) := by
  obtain ⟨z, Z, S, b, hr⟩ := h.toZ
  obtain ⟨hz, h12, hs, hg, hu, hZ, hS⟩ := id hr
  have d0 := hg.dy
  have r0 := hg.hr
  have hm : 0 ≤ mom S ∧ mom S ≤ 23999 := by unfold mom; omega
  have key : x = 0 ∨ x = 1 → wp (C_alone_b11 x mC) (fun a => wp ((M_copies 1 0 mM).bind (fun r5 => M_alone_L19 (fun x1_8 x2_8 x3_8 m9 => (if x1_8 = 0 then
  some (x2_8, m9)
  else some (x3_8, m9))) 1000000 x 0 r5)) (fun b => a.1 = b.1 ∧ Rel a.2 b.2)) := by
    intro hx
    unfold C_alone_b11
    refine wp_bm (rs_ahead hr) (fun mC1 ⟨mM1, eM, hr1⟩ => ?_)
    have s8 : sv mC1 8 = S := by rw [← hS]; exact sv_eq fun q hq => hr1.1 _ (by simp; omega)
    rw [eM, Option.bind_some, toSee_ok hg s8, Option.bind_some]
    exact alone_L hr rfl hx (min 100 (24000 - mom S)).toNat 1000000 1000000 0 mC1 mM1 S (by omega) (by omega) (by omega) (by omega) hr1.1 hr1.2.1 (fun _ => ⟨hr1, by omega⟩)
  unfold C_alone M_alone
  rw [is_ok, Option.bind_some]
  by_cases c0 : x = 0
  · rw [if_pos c0, if_pos (show (0 : Int) ≤ x ∧ x ≤ 1 by omega), if_neg n10]
    exact key (Or.inl c0)
  · rw [if_neg c0]
    by_cases c1 : x = 1
    · rw [if_pos c1, if_pos (show (0 : Int) ≤ x ∧ x ≤ 1 by omega), if_neg n10]
      exact key (Or.inr c1)
    · rw [if_neg c1, if_neg (show ¬ ((0 : Int) ≤ x ∧ x ≤ 1) by omega), if_pos p00]
      exact wp_some (wp_some ⟨rfl, h⟩)
