/-! whom the beasts ask for: the same in both -/
def LMV (Z S : zM) (b g : Int) : Int := if (awV Z S b && opV Z S b g) = true then LKV Z S b g else 0
theorem wp_weighGuest {Z S mM m : zM} {z o : Nat} {bk v g : Int} (h : GG Z S mM bk v) (hZ : zv m z = Z) (hS : sv m o = S) (hz : 55 ≤ z) (ho : o + 7 < 26 ∨ 89 ≤ o) (hzo : o < z ∨ z + 16 < o) (g0 : 0 ≤ g) (g1 : g < Z 0 1) : wp (Ke_weighGuest z o g m) (fun m' => eqO [26, 29, z + 13] m m' ∧ (∀ b, 0 ≤ b → b < Z 0 0 → m' 26 (b * 8 + g) = LMV Z S b g) ∧ ∀ j, j % 8 ≠ g → m' 26 j = m 26 j) := by
  have n1 := h.nb
  have n2 := h.ng
  unfold Ke_weighGuest
  refine wp_for (fun n i s => Ke_weighGuest_L3 n z o g i s) (fun i s => eqO [26, 29, z + 13] m s ∧ (∀ b, 0 ≤ b → b < i → s 26 (b * 8 + g) = LMV Z S b g) ∧ ∀ j, j % 8 ≠ g → s 26 j = m 26 j) _ 0 (Z 0 0) ?_ ?_ 1000000 0 m (by omega) (by omega) (by omega) ⟨eqO.refl, fun b q1 q2 => by omega, fun j q => rfl⟩
  · intro n s hI
    obtain ⟨i1, i2, i3⟩ := hI
    show wp (Ke_weighGuest_B3 _ _ _ _ _ _) _
    unfold Ke_weighGuest_B3
    rw [i1 z (by simp; omega), rZ0 hZ, if_neg (by omega)]
    exact wp_some ⟨i1, i2, i3⟩
  · intro n i s q0 q1 hI hr
    obtain ⟨i1, i2, i3⟩ := hI
    show wp (Ke_weighGuest_B3 _ _ _ _ _ _) _
    unfold Ke_weighGuest_B3
    have zs : zv s z = Z := by rw [← hZ]; exact zv_eq fun k q1 q2 => i1 _ (by simp; omega)
    have ss : sv s o = S := by rw [← hS]; exact sv_eq fun k q1 => i1 _ (by simp; omega)
    rw [i1 z (by simp; omega), rZ0 hZ, if_pos q1, meet_ok zs ss q0 (by omega) g0 (by omega), Option.bind_some, wI_ok (x := i * 8) (by omega) (by omega), wI_ok (x := i * 8 + g) (by omega) (by omega), wI_ok (x := i + 1) (by omega) (by omega)]
    have fin : ∀ s', eqO [26, 29, z + 13] m s' → s' 26 = s 26 → ∀ x, x = LMV Z S i g → wp (Ke_weighGuest_L3 n z o g (i + 1) (upm s' 26 (i * 8 + g) x)) (fun m' => eqO [26, 29, z + 13] m m' ∧ (∀ b, 0 ≤ b → b < Z 0 0 → m' 26 (b * 8 + g) = LMV Z S b g) ∧ ∀ j, j % 8 ≠ g → m' 26 j = m 26 j) := by
      intro s' e1 e2 x hx
      refine hr _ ⟨e1.put (by simp), fun b b0 b1 => ?_, fun j hj => ?_⟩
      · by_cases w : b = i
        · subst w
          rw [ru3 rfl rfl, hx]
        · rw [ru2 (by omega), e2]
          exact i2 b b0 (by omega)
      · rw [ru2 (by omega), e2]
        exact i3 j hj
    by_cases w : (awV Z S i && opV Z S i g) = true
    · rw [if_pos w, if_neg (by decide)]
      refine wp_bm (wp_liking h zs ss hz ho q0 q1 g0 g1) (fun r ⟨r1, r2⟩ => ?_)
      rw [wr_ok (by omega) (by omega)]
      refine fin _ (i1.trans (r2.mono (by simp))) (r2 26 (by simp; omega)) _ ?_
      unfold LMV
      rw [if_pos w, r1]
    · rw [if_neg w, if_pos rfl, wr_ok (by omega) (by omega)]
      refine fin _ i1 rfl _ ?_
      unfold LMV
      rw [if_neg w]
theorem wp_weigh {Z S mM m : zM} {z o : Nat} {bk v : Int} (h : GG Z S mM bk v) (hZ : zv m z = Z) (hS : sv m o = S) (hz : 55 ≤ z) (ho : o + 7 < 26 ∨ 89 ≤ o) (hzo : o < z ∨ z + 16 < o) : wp (Ke_weigh z o m) (fun m' => eqO [26, 29, z + 13] m m' ∧ ∀ b g, 0 ≤ b → b < Z 0 0 → 0 ≤ g → g < Z 0 1 → m' 26 (b * 8 + g) = LMV Z S b g) := by
  have n1 := h.nb
  have n2 := h.ng
  unfold Ke_weigh
  refine wp_for (fun n i s => Ke_weigh_L2 n z o i s) (fun i s => eqO [26, 29, z + 13] m s ∧ ∀ b g, 0 ≤ b → b < Z 0 0 → 0 ≤ g → g < i → s 26 (b * 8 + g) = LMV Z S b g) _ 0 (Z 0 1) ?_ ?_ 1000000 0 m (by omega) (by omega) (by omega) ⟨eqO.refl, fun b g _ _ q1 q2 => by omega⟩
  · intro n s hI
    obtain ⟨i1, i2⟩ := hI
    show wp (Ke_weigh_B2 _ _ _ _ _) _
    unfold Ke_weigh_B2
    rw [i1 z (by simp; omega), rZ0 hZ, if_neg (by omega)]
    exact wp_some ⟨i1, i2⟩
  · intro n i s q0 q1 hI hr
    obtain ⟨i1, i2⟩ := hI
    show wp (Ke_weigh_B2 _ _ _ _ _) _
    unfold Ke_weigh_B2
    have zs : zv s z = Z := by rw [← hZ]; exact zv_eq fun k q1 q2 => i1 _ (by simp; omega)
    have ss : sv s o = S := by rw [← hS]; exact sv_eq fun k q1 => i1 _ (by simp; omega)
    rw [i1 z (by simp; omega), rZ0 hZ, if_pos q1, wI_ok (x := i + 1) (by omega) (by omega)]
    refine wp_bm (wp_weighGuest h zs ss hz ho hzo q0 q1) (fun m' ⟨k1, k2, k3⟩ => ?_)
    refine hr m' ⟨i1.trans k1, fun b g b0 b1 g0 g1 => ?_⟩
    by_cases w : g = i
    · subst w
      exact k2 b b0 b1
    · rw [k3 _ (by omega)]
      exact i2 b g b0 b1 g0 (by omega)
def favV (Z S : zM) (b taken fr : Int) : Nat → Int × Int
  | 0 => (0, -1)
  | n + 1 => if (awV Z S b && opV Z S b n) = true ∧ (favV Z S b taken fr n).1 < LKV Z S b n ∧ anI (srI taken n) 1 = 0 ∧ mayV Z S b n fr = 1 then (LKV Z S b n, (n : Int)) else favV Z S b taken fr n
theorem fav_b {Z S mM : zM} {bk v b taken fr : Int} (h : GG Z S mM bk v) (b0 : 0 ≤ b) (b1 : b < Z 0 0) : ∀ n : Nat, (n : Int) ≤ Z 0 1 → (0 ≤ (favV Z S b taken fr n).1 ∧ (favV Z S b taken fr n).1 ≤ 999) ∧ -1 ≤ (favV Z S b taken fr n).2 ∧ (favV Z S b taken fr n).2 < (n : Int)
  | 0, _ => ⟨⟨Int.le_refl 0, by show (0 : Int) ≤ 999; omega⟩, Int.le_refl _, by show (-1 : Int) < 0; omega⟩
  | n + 1, hn => by
    have ih := fav_b h (taken := taken) (fr := fr) b0 b1 n (by omega)
    have lk := h.lk b0 b1 (g := n) (by omega) (by omega)
    unfold favV
    split
    · exact ⟨lk, by show -1 ≤ (n : Int); omega, by show (n : Int) < _; omega⟩
    · exact ⟨ih.1, by omega, by omega⟩
theorem fav_taken {Z S : zM} {b taken fr : Int} : ∀ n : Nat, (favV Z S b taken fr n).2 = -1 ∨ (0 ≤ (favV Z S b taken fr n).2 ∧ (favV Z S b taken fr n).2 < (n : Int) ∧ (awV Z S b && opV Z S b (favV Z S b taken fr n).2) = true ∧ anI (srI taken (favV Z S b taken fr n).2) 1 = 0)
  | 0 => Or.inl rfl
  | n + 1 => by
    have ih := fav_taken (Z := Z) (S := S) (b := b) (taken := taken) (fr := fr) n
    unfold favV
    split
    · next q => exact Or.inr ⟨by show 0 ≤ (n : Int); omega, by show (n : Int) < _; omega, q.1, q.2.2.1⟩
    · rcases ih with e | ⟨e1, e2, e3⟩
      · exact Or.inl e
      · exact Or.inr ⟨e1, by omega, e3⟩
theorem wp_fav {Z S mM m : zM} {z o : Nat} {bk v b taken fr : Int} (h : GG Z S mM bk v) (hZ : zv m z = Z) (hS : sv m o = S) (hz : 55 ≤ z) (ho : o + 7 < 26 ∨ 89 ≤ o) (hzo : o < z ∨ z + 16 < o) (b0 : 0 ≤ b) (b1 : b < Z 0 0) (f0 : 0 ≤ fr) (f1 : fr ≤ 6) (hl : ∀ g, 0 ≤ g → g < Z 0 1 → m 26 (b * 8 + g) = LMV Z S b g) : wp (Ke_favourite z o b taken fr m) (fun r => r.1 = (favV Z S b taken fr (Z 0 1).toNat).2 ∧ eqO [29, z + 16] m r.2) := by
  have n1 := h.nb
  have n2 := h.ng
  unfold Ke_favourite
  refine wp_for (fun n i (s : (Int × Int) × zM) => Ke_favourite_L9 n z o b taken fr s.1.1 s.1.2 i s.2) (fun i s => eqO [29, z + 16] m s.2 ∧ s.1 = favV Z S b taken fr i.toNat) _ 0 (Z 0 1) ?_ ?_ 1000000 0 ((0, -1), m) (by omega) (by omega) (by omega) ⟨eqO.refl, rfl⟩
  · intro n s hI
    obtain ⟨i1, i2⟩ := hI
    show wp (Ke_favourite_B9 _ _ _ _ _ _ _ _ _ _) _
    unfold Ke_favourite_B9
    rw [i1 z (by simp; omega), rZ0 hZ, if_neg (by omega)]
    exact wp_some ⟨by rw [← i2], i1⟩
  · intro n i s q0 q1 hI hr
    obtain ⟨i1, i2⟩ := hI
    show wp (Ke_favourite_B9 _ _ _ _ _ _ _ _ _ _) _
    unfold Ke_favourite_B9
    have zs : zv s.2 z = Z := by rw [← hZ]; exact zv_eq fun k q1 q2 => i1 _ (by simp; omega)
    have ss : sv s.2 o = S := by rw [← hS]; exact sv_eq fun k q1 => i1 _ (by simp; omega)
    have fb := fav_b h (taken := taken) (fr := fr) b0 b1 i.toNat (by omega)
    have ei : ((i.toNat : Nat) : Int) = i := by omega
    have en : (i + 1).toNat = i.toNat + 1 := by omega
    have e26 : s.2 26 = m 26 := i1 26 (by simp; omega)
    have nx : ∀ p : (Int × Int) × zM, eqO [29, z + 16] m p.2 → p.1 = favV Z S b taken fr (i.toNat + 1) → wp (Ke_favourite_L9 n z o b taken fr p.1.1 p.1.2 (i + 1) p.2) (fun r => r.1 = (favV Z S b taken fr (Z 0 1).toNat).2 ∧ eqO [29, z + 16] m r.2) := fun p e1 e2 => hr p ⟨e1, by rw [en]; exact e2⟩
    have ef : ∀ q : Prop, (q ↔ ((awV Z S b && opV Z S b i) = true ∧ (favV Z S b taken fr i.toNat).1 < LKV Z S b i ∧ anI (srI taken i) 1 = 0 ∧ mayV Z S b i fr = 1)) → (q → favV Z S b taken fr (i.toNat + 1) = (LKV Z S b i, i)) ∧ (¬ q → favV Z S b taken fr (i.toNat + 1) = favV Z S b taken fr i.toNat) := by
      intro q hq
      constructor
      · intro w
        have w2 := hq.mp w
        rw [← ei] at w2
        rw [Int.toNat_natCast] at w2
        show (if _ then _ else _) = _
        rw [if_pos w2, ei]
      · intro w
        have w2 := fun t => w (hq.mpr t)
        rw [← ei] at w2
        rw [Int.toNat_natCast] at w2
        show (if _ then _ else _) = _
        rw [if_neg w2]
    rw [i1 z (by simp; omega), rZ0 hZ, if_pos q1, wI_ok (x := b * 8) (by omega) (by omega), wI_ok (x := b * 8 + i) (by omega) (by omega), wI_ok (x := i + 1) (by omega) (by omega), rd_ok (by omega) (by omega), e26, hl i q0 q1, i2]
    by_cases c1 : (favV Z S b taken fr i.toNat).1 < LMV Z S b i
    · rw [if_pos c1]
      have c2 : (awV Z S b && opV Z S b i) = true := by
        by_cases w : (awV Z S b && opV Z S b i) = true
        · exact w
        · unfold LMV at c1
          rw [if_neg w] at c1
          omega
      have c3 : LMV Z S b i = LKV Z S b i := by unfold LMV; rw [if_pos c2]
      rw [c3] at c1 ⊢
      by_cases c4 : anI (srI taken i) 1 = 0
      · rw [if_pos c4]
        refine wp_bm (wp_may h zs ss hz ho b0 b1 q0 q1 f0 f1 (by rw [e26, hl i q0 q1, c3])) (fun r ⟨r1, r2⟩ => ?_)
        have mb := h.mayb b0 b1 q0 q1 f0 f1
        have f2 := i1.trans r2
        rw [r1]
        by_cases c5 : mayV Z S b i fr = 0
        · rw [if_pos c5]
          exact nx (_, r.2) f2 ((ef False ⟨fun x => x.elim, fun x => by omega⟩).2 id).symm
        · rw [if_neg c5]
          exact nx ((_, _), r.2) f2 ((ef True ⟨fun _ => ⟨c2, c1, c4, by omega⟩, fun _ => trivial⟩).1 trivial).symm
      · rw [if_neg c4]
        exact nx (_, s.2) i1 ((ef False ⟨fun x => x.elim, fun x => c4 x.2.2.1⟩).2 id).symm
    · rw [if_neg c1]
      refine nx (_, s.2) i1 ((ef False ⟨fun x => x.elim, fun x => c1 ?_⟩).2 id).symm
      unfold LMV
      rw [if_pos x.1]
      exact x.2.1
def wishV (Z S : zM) (b taken fr : Int) : Int := if 0 < fr ∧ awV Z S b = true then (favV Z S b taken fr (Z 0 1).toNat).2 else -1
def chV (Z S : zM) : Nat → Int × Int
  | 0 => (0, Z 0 14)
  | n + 1 => if wishV Z S n (chV Z S n).1 (chV Z S n).2 = -1 then chV Z S n else (orI (chV Z S n).1 (slI 1 (wishV Z S n (chV Z S n).1 (chV Z S n).2)), (chV Z S n).2 - 1)
def akV (Z S : zM) (b : Nat) : Int := wishV Z S b (chV Z S b).1 (chV Z S b).2
theorem GG.ush {Z S mM : zM} {b v : Int} (h : GG Z S mM b v) : 0 ≤ Z 0 14 ∧ Z 0 14 ≤ 6 := h.1.2.2.2.2.2.2.2.2.2.2.2.2.1.1.2
theorem ch_b {Z S : zM} (h : 0 ≤ Z 0 14 ∧ Z 0 14 ≤ 6) : ∀ n, 0 ≤ (chV Z S n).2 ∧ (chV Z S n).2 ≤ 6
  | 0 => h
  | n + 1 => by
    have ih := ch_b (S := S) h n
    unfold chV
    split
    · exact ih
    · next q =>
      have : 0 < (chV Z S n).2 := by
        by_cases w : 0 < (chV Z S n).2
        · exact w
        · exfalso
          apply q
          unfold wishV
          rw [if_neg (fun t => by omega)]
      exact ⟨by show 0 ≤ _ - 1; omega, by show _ - 1 ≤ 6; omega⟩
theorem ws_b {Z S mM : zM} {bk v b taken fr : Int} (h : GG Z S mM bk v) (b0 : 0 ≤ b) (b1 : b < Z 0 0) : -1 ≤ wishV Z S b taken fr ∧ wishV Z S b taken fr < Z 0 1 := by
  have n2 := h.ng
  have := fav_b h (taken := taken) (fr := fr) b0 b1 (Z 0 1).toNat (by omega)
  unfold wishV
  split <;> omega
theorem wp_choose {Z S mM m : zM} {z o : Nat} {bk v N : Int} (h : GG Z S mM bk v) (hZ : zv m z = Z) (hS : sv m o = S) (hz : 55 ≤ z) (ho : o + 7 < 26 ∨ 89 ≤ o) (hzo : o < z ∨ z + 16 < o) (hu : m z 14 = Z 0 14) (N0 : 0 ≤ N) (N1 : N ≤ Z 0 0) (hl : ∀ b g, 0 ≤ b → b < Z 0 0 → 0 ≤ g → g < Z 0 1 → m 26 (b * 8 + g) = LMV Z S b g) : wp (Ke_choose z o N m) (fun m' => eqO [27, 29, z + 16] m m' ∧ (∀ b : Nat, (b : Int) < N → m' 27 b = akV Z S b) ∧ ∀ j, N ≤ j → m' 27 j = m 27 j) := by
  have n1 := h.nb
  have n2 := h.ng
  have cb := ch_b (Z := Z) (S := S) h.ush
  unfold Ke_choose
  rw [hu]
  refine wp_for (fun n i (s : (Int × Int) × zM) => Ke_choose_L12 n z o N s.1.1 s.1.2 i s.2) (fun i s => (eqO [27, 29, z + 16] m s.2 ∧ s.1 = chV Z S i.toNat) ∧ (∀ b : Nat, (b : Int) < i → s.2 27 b = akV Z S b) ∧ ∀ j, i ≤ j → s.2 27 j = m 27 j) _ 0 N ?_ ?_ 1000000 0 ((0, Z 0 14), m) (by omega) (by omega) (by omega) ⟨⟨eqO.refl, rfl⟩, fun b q => by omega, fun j q => rfl⟩
  · intro n s hI
    obtain ⟨⟨i1, i2⟩, i3, i4⟩ := hI
    show wp (Ke_choose_B12 _ _ _ _ _ _ _ _) _
    unfold Ke_choose_B12
    rw [if_neg (by omega)]
    exact wp_some ⟨i1, i3, i4⟩
  · intro n i s q0 q1 hI hr
    obtain ⟨⟨i1, i2⟩, i3, i4⟩ := hI
    show wp (Ke_choose_B12 _ _ _ _ _ _ _ _) _
    unfold Ke_choose_B12
    have ei : ((i.toNat : Nat) : Int) = i := by omega
    have en : (i + 1).toNat = i.toNat + 1 := by omega
    have cbi := cb i.toNat
    -- what stands behind the choice
    have fin : ∀ s' : zM, eqO [27, 29, z + 16] m s' → (∀ j, j ≠ i → s' 27 j = s.2 27 j) → s' 27 i = akV Z S i.toNat → wp (Ke_choose_b70 (Ke_choose_L12 n) z o N (chV Z S i.toNat).1 (chV Z S i.toNat).2 i s') (fun m' => eqO [27, 29, z + 16] m m' ∧ (∀ b : Nat, (b : Int) < N → m' 27 b = akV Z S b) ∧ ∀ j, N ≤ j → m' 27 j = m 27 j) := by
      intro s' e1 e2 e3
      unfold Ke_choose_b70
      rw [rd_ok q0 (by omega), rd_ok q0 (by omega), e3, wI_ok (x := i + 1) (by omega) (by omega), lt_ok, wI_ok (x := (chV Z S i.toNat).2 + -1) (by omega) (by omega)]
      have e4 : ∀ b : Nat, (b : Int) < i + 1 → s' 27 b = akV Z S b := by
        intro b hb
        by_cases w : b = i.toNat
        · subst w
          rw [ei]; exact e3
        · rw [e2 _ (by omega)]
          exact i3 b (by omega)
      have e5 : ∀ j, i + 1 ≤ j → s' 27 j = m 27 j := fun j hj => by rw [e2 j (by omega), i4 j (by omega)]
      by_cases w : akV Z S i.toNat = -1
      · rw [if_pos w]
        refine hr (_, s') ⟨⟨e1, ?_⟩, e4, e5⟩
        rw [en]
        show _ = if _ then _ else _
        rw [if_pos (show wishV Z S (i.toNat : Int) _ _ = -1 from w)]
      · rw [if_neg w]
        refine hr ((_, _), s') ⟨⟨e1, ?_⟩, e4, e5⟩
        rw [en]
        show _ = if _ then _ else _
        rw [if_neg (show ¬ wishV Z S (i.toNat : Int) _ _ = -1 from w)]
        rfl
    have zs0 : zv s.2 z = Z := by rw [← hZ]; exact zv_eq fun k q1 q2 => i1 _ (by simp; omega)
    have ss0 : sv s.2 o = S := by rw [← hS]; exact sv_eq fun k q1 => i1 _ (by simp; omega)
    have zs : zv (upm s.2 27 i (-1)) z = Z := by rw [zv_upm (by omega), zs0]
    have ss : sv (upm s.2 27 i (-1)) o = S := by rw [sv_upm (by omega), ss0]
    have f1 : eqO [27, 29, z + 16] m (upm s.2 27 i (-1)) := i1.put (by simp)
    rw [if_pos q1, if_pos (by omega), wr_ok q0 (by omega), i2, rS01 ss, awake_ok zs q0 (by omega), Option.bind_some]
    by_cases c1 : 0 < (chV Z S i.toNat).2
    · rw [if_pos c1]
      by_cases c2 : Z 2 i ≤ S 0 1 ∧ S 0 1 ≤ Z 3 i
      · rw [if_pos c2, if_neg (by decide)]
        refine wp_bm (wp_fav h zs ss hz ho hzo q0 (by omega) cbi.1 cbi.2 (fun g g0 g1 => ?_)) (fun r ⟨r1, r2⟩ => ?_)
        · rw [ru1 (by omega), i1 26 (by simp; omega)]
          exact hl i g q0 (by omega) g0 g1
        · rw [wr_ok q0 (by omega)]
          refine fin _ ((f1.trans (r2.mono (by simp))).put (by simp)) (fun j hj => ?_) ?_
          · rw [ru2 hj, r2 27 (by simp; omega), ru2 hj]
          · rw [ru3 rfl rfl, r1]
            unfold akV wishV
            rw [ei, if_pos ⟨c1, decide_eq_true c2⟩]
      · rw [if_neg c2, if_pos rfl]
        refine fin _ f1 (fun j hj => ru2 hj) ?_
        rw [ru3 rfl rfl]
        unfold akV wishV
        rw [ei, if_neg (fun t => c2 (of_decide_eq_true t.2))]
    · rw [if_neg c1]
      refine fin _ f1 (fun j hj => ru2 hj) ?_
      rw [ru3 rfl rfl]
      unfold akV wishV
      rw [ei, if_neg (fun t => c1 t.1)]
