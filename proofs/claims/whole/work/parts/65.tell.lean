/-! tell -/
theorem Rel.io {mC mC' mM mM' : zM} (h : Rel mC mM) (t : RT (mC' 3) (mC' 2 1) (mM' 1) (mM' 0 1)) (fl : mC' 1 1 = mM' 0 10 ∧ mC' 1 2 = mM' 0 11) (rl : ∀ z : Nat, (z = 55 ∨ z = 72) → mC 0 12 = (z : Int) + 1 → RL mC' mM' (zv mC z 0 1)) (ri : RI mC' mM') (rr : RR (mC' 54) (mM' 26)) (f0 : mC' 0 = mC 0) (f7 : mC' 7 = mC 7) (f8 : ∀ a : Nat, 8 ≤ a → a ≤ 15 → mC' a = mC a) (f55 : ∀ z : Nat, (z = 55 ∨ z = 72) → mC 0 12 = (z : Int) + 1 → ∀ a : Nat, 55 ≤ a → a ≠ z + 13 → a ≠ z + 16 → mC' a = mC a) (g0 : mM' 0 13 = mM 0 13 ∧ mM' 0 56 = mM 0 56 ∧ mM' 0 57 = mM 0 57 ∧ mM' 0 58 = mM 0 58) (g2 : ∀ a, 2 ≤ a → a ≤ 18 → mM' a = mM a) (g27 : ∀ u, u ≠ 1 → 0 ≤ u → ∀ a, 27 ≤ a → a ≤ 36 → ∀ i, lay a * u ≤ i → i < lay a * u + lay a → mM' a i = mM a i) : Rel mC' mM' := by
  obtain ⟨z, hs, hn, hu⟩ := h
  have hz := hs.2.2.1.1
  have h12 := hs.2.2.1.2.1
  have f := f55 z hz h12
  have ez : zv mC' z = zv mC z := zv_eq fun k k1 k2 => f _ (by omega) (by omega) (by omega)
  have n1 : zv mC z 0 0 ≤ 6 := hs.2.2.1.2.2.2.2.1.2.2
  have n2 : zv mC z 0 1 ≤ 8 := hs.2.2.1.2.2.2.2.2.1.2.2
  refine ⟨z, ?_, ?_, ?_⟩
  · obtain ⟨a1, a2, a3, a4, a5, a6, a7, a8⟩ := hs
    unfold RS RZ
    rw [ez, f0, f7, g0.1, g0.2.2.2]
    exact ⟨t, fl, ⟨a3.1, a3.2.1, a3.2.2.1, a3.2.2.2.1, a3.2.2.2.2.same g2⟩, rl z hz h12, ri, rr, a7, a8⟩
  · rw [ez, sv_eq (m := mC) (m' := mC') (fun q _ => f8 _ (by omega) (by omega))]
    exact hn.same n1 n2 (fun a q1 q2 i i1 i2 => g27 0 (by omega) (by omega) a q1 q2 i i1 i2)
  · obtain ⟨a1, a2, a3⟩ := hu
    unfold RU
    rw [f0, ez, g0.2.1, g0.2.2.1]
    refine ⟨a1, a2, fun k k0 k1 => ?_⟩
    rw [sv_eq (m := mC) (m' := mC') (o := 89 + 8 * ((mC 0 14 + k) % 20).toNat) (fun q _ => f _ (by omega) (by omega) (by omega))]
    exact (a3 k k0 k1).same n1 n2 (fun a q1 q2 i i1 i2 => g27 (2 + (mC 0 14 + k) % 20) (by omega) (by omega) a q1 q2 i i1 i2)
theorem unlike_L {m : zM} (hn : m 2 1 ≤ 32) : ∀ (d n : Nat) (i : Int), i + 2 * (d : Int) = m 2 1 → 0 ≤ i → d < n → ∃ v, Ta_pairsUnlike_L2 m n i = some v ∧ (v = 0 ∨ v = 1) ∧ (v = 1 ↔ ∀ j, i ≤ j → j < m 2 1 → (j - i) % 2 = 0 → m 3 j ≠ m 3 (j + 1)) := by
  intro d
  induction d with
  | zero =>
    intro n i hi i0 hd
    obtain ⟨n, rfl⟩ : ∃ q, n = q + 1 := ⟨n - 1, by omega⟩
    refine ⟨1, ?_, Or.inr rfl, ⟨fun _ j j0 j1 => by omega, fun _ => rfl⟩⟩
    show Ta_pairsUnlike_B2 _ _ _ = _
    unfold Ta_pairsUnlike_B2
    rw [wI_ok (by omega) (by omega), if_neg (by omega)]
  | succ d ih =>
    intro n i hi i0 hd
    obtain ⟨n, rfl⟩ : ∃ q, n = q + 1 := ⟨n - 1, by omega⟩
    obtain ⟨v, v1, v2, v3⟩ := ih n (i + 2) (by omega) (by omega) (by omega)
    show ∃ v, Ta_pairsUnlike_B2 _ _ _ = _ ∧ _
    unfold Ta_pairsUnlike_B2
    rw [wI_ok (x := i + 1) (by omega) (by omega), wI_ok (x := i + 2) (by omega) (by omega), if_pos (by omega), rd_ok i0 (by omega), rd_ok (by omega) (by omega)]
    by_cases c : m 3 i = m 3 (i + 1)
    · rw [if_pos c]
      exact ⟨0, rfl, Or.inl rfl, ⟨fun w => by omega, fun w => absurd c (w i (by omega) (by omega) (by omega))⟩⟩
    · rw [if_neg c]
      refine ⟨v, v1, v2, v3.trans ⟨fun w j j0 j1 j2 => ?_, fun w j j0 j1 j2 => w j (by omega) j1 (by omega)⟩⟩
      by_cases q : j = i
      · subst q; exact c
      · exact w j (by omega) j1 (by omega)
theorem tellM_L {k100 : Int → Int → zM → Option (Int × zM)} {m Z S : zM} {bk N : Int} (hg : GG Z S m bk 0) (N1 : N ≤ 32) (hN : N % 2 = 0) (ht : ∀ i, 0 ≤ i → i < N → 0 ≤ m 1 i) : ∀ (d n : Nat) (c i : Int), i + 2 * (d : Int) = N → 0 ≤ i → d < n → (c = 0 ∨ c = 1) → ∃ v, M_tell_L34 k100 n N c i m = k100 N v m ∧ (v = 0 ∨ v = 1) ∧ (v = 1 ↔ c = 1 ∧ (∀ j, i ≤ j → j < N → m 1 j < Z 0 1) ∧ ∀ j, i ≤ j → j < N → (j - i) % 2 = 0 → m 1 j ≠ m 1 (j + 1)) := by
  intro d
  induction d with
  | zero =>
    intro n c i hi i0 hd hc
    obtain ⟨n, rfl⟩ : ∃ q, n = q + 1 := ⟨n - 1, by omega⟩
    refine ⟨c, ?_, hc, ⟨fun w => ⟨w, fun j j0 j1 => by omega, fun j j0 j1 => by omega⟩, fun w => w.1⟩⟩
    show M_tell_B34 _ _ _ _ _ _ = _
    unfold M_tell_B34
    rw [if_neg (by omega)]
  | succ d ih =>
    intro n c i hi i0 hd hc
    obtain ⟨n, rfl⟩ : ∃ q, n = q + 1 := ⟨n - 1, by omega⟩
    have t0 := ht i i0 (by omega)
    have t1 := ht (i + 1) (by omega) (by omega)
    show ∃ v, M_tell_B34 _ _ _ _ _ _ = _ ∧ _
    unfold M_tell_B34
    rw [if_pos (by omega)]
    by_cases c0 : c = 0
    · rw [if_pos c0]
      exact ⟨c, rfl, hc, ⟨fun w => by omega, fun w => w.1⟩⟩
    · rw [if_neg c0, rd_ok i0 (by omega), wI_ok (x := i + 1) (by omega) (by omega), wI_ok (x := i + 2) (by omega) (by omega), rd_ok (by omega) (by omega), MG_guest hg, MG_guest hg, Option.bind_some, Option.bind_some, rd_ok i0 (by omega), rd_ok (by omega) (by omega)]
      have bad : ∀ P : Prop, (P → False) → ∃ v, M_tell_L34 k100 n N 0 (i + 2) m = k100 N v m ∧ (v = 0 ∨ v = 1) ∧ (v = 1 ↔ P) := by
        intro P hP
        obtain ⟨v, v1, v2, v3⟩ := ih n 0 (i + 2) (by omega) (by omega) (by omega) (Or.inl rfl)
        exact ⟨v, v1, v2, v3.trans ⟨fun w => by omega, fun w => (hP w).elim⟩⟩
      by_cases q0 : m 1 i < Z 0 1
      · rw [if_pos (show 0 ≤ m 1 i ∧ m 1 i < Z 0 1 from ⟨t0, q0⟩), if_neg n10]
        by_cases q1 : m 1 (i + 1) < Z 0 1
        · rw [if_pos (show 0 ≤ m 1 (i + 1) ∧ m 1 (i + 1) < Z 0 1 from ⟨t1, q1⟩), if_neg n10]
          by_cases q2 : m 1 i = m 1 (i + 1)
          · rw [if_pos q2]
            exact bad _ (fun w => w.2.2 i (by omega) (by omega) (by omega) q2)
          · rw [if_neg q2]
            obtain ⟨v, v1, v2, v3⟩ := ih n 1 (i + 2) (by omega) (by omega) (by omega) (Or.inr rfl)
            refine ⟨v, v1, v2, v3.trans ⟨fun w => ⟨by omega, fun j j0 j1 => ?_, fun j j0 j1 j2 => ?_⟩, fun w => ⟨rfl, fun j j0 j1 => w.2.1 j (by omega) j1, fun j j0 j1 j2 => w.2.2 j (by omega) j1 (by omega)⟩⟩⟩
            · by_cases e0 : j = i
              · subst e0; exact q0
              · by_cases e1 : j = i + 1
                · subst e1; exact q1
                · exact w.2.1 j (by omega) j1
            · by_cases e0 : j = i
              · subst e0; exact q2
              · exact w.2.2 j (by omega) j1 (by omega)
        · rw [if_neg (show ¬ (0 ≤ m 1 (i + 1) ∧ m 1 (i + 1) < Z 0 1) from fun t => q1 t.2), if_pos p00]
          exact bad _ (fun w => q1 (w.2.1 (i + 1) (by omega) (by omega)))
      · rw [if_neg (show ¬ (0 ≤ m 1 i ∧ m 1 i < Z 0 1) from fun t => q0 t.2), if_pos p00]
        exact bad _ (fun w => q0 (w.2.1 i (by omega) (by omega)))
theorem wp_hear {m : zM} {N R : Int} (hN : m 2 1 = N) (hR : N = 2 * R) (R0 : 0 ≤ R) (R1 : R ≤ 16) : wp (Gu_hear m) (fun r => (∀ a, a ≠ 40 → a ≠ 42 → r a = m a) ∧ r 40 0 = R ∧ ∀ k, 0 ≤ k → k < N → r 42 k = m 3 k) := by
  unfold Gu_hear
  rw [pf_ok]
  refine wp_for (fun n j (s : zM) => Gu_hear_L7 n (2 * j) s) (fun j s => (∀ a, a ≠ 40 → a ≠ 42 → s a = m a) ∧ s 40 0 = j ∧ ∀ k, 0 ≤ k → k < 2 * j → s 42 k = m 3 k) _ 0 R ?_ ?_ 1000000 0 _ (by omega) (by omega) (by omega) ⟨fun a q1 q2 => upm_ne q1, ru3 rfl rfl, fun k k0 k1 => by omega⟩
  · intro n s hI
    obtain ⟨i1, i2, i3⟩ := hI
    show wp (Gu_hear_B7 _ _ _) _
    unfold Gu_hear_B7
    rw [i1 2 (by decide) (by decide), hN, wI_ok (by omega) (by omega), if_neg (by omega)]
    exact wp_some ⟨i1, i2, fun k k0 k1 => i3 k k0 (by omega)⟩
  · intro n j s q0 q1 hI hr
    obtain ⟨i1, i2, i3⟩ := hI
    show wp (Gu_hear_B7 _ _ _) _
    unfold Gu_hear_B7
    rw [i1 2 (by decide) (by decide), hN, wI_ok (x := 2 * j + 1) (by omega) (by omega), if_pos (by omega), if_pos (by omega), rd_ok (by omega) (by omega), wr_ok (by omega) (by omega), rd_ok (by omega) (by omega), wr_ok (by omega) (by omega), pf_ok, wI_ok (x := 2 * j + 2) (by omega) (by omega), ru1 (b := 3) (by decide), i1 3 (by decide) (by decide), ru1 (b := 40) (by decide), ru1 (b := 40) (by decide), i2, wI_ok (x := j + 1) (by omega) (by omega), show 2 * j + 2 = 2 * (j + 1) from by omega]
    refine hr _ ⟨fun a q1 q2 => by rw [upm_ne q1, upm_ne q2, upm_ne q2, i1 a q1 q2], ru3 rfl rfl, fun k k0 k1 => ?_⟩
    rw [ru1 (by decide)]
    by_cases e1 : k = 2 * j + 1
    · subst e1
      rw [ru3 rfl rfl]
    · rw [ru2 e1]
      by_cases e2 : k = 2 * j
      · subst e2
        rw [ru3 rfl rfl]
      · rw [ru2 e2]
        exact i3 k k0 (by omega)
theorem wp_told {m : zM} {R : Int} (R0 : 0 ≤ R) (R1 : R ≤ 16) (hR : m 0 65 = R) : wp (M_tell_L119 1000000 0 m) (fun r => r.1 = R ∧ (∀ a, a ≠ 43 → a ≠ 44 → r.2 a = m a) ∧ ∀ k, 0 ≤ k → k < R → r.2 43 k = m 1 (2 * k) ∧ r.2 44 k = m 1 (2 * k + 1)) := by
  refine wp_for (fun n j (s : zM) => M_tell_L119 n j s) (fun j s => (∀ a, a ≠ 43 → a ≠ 44 → s a = m a) ∧ ∀ k, 0 ≤ k → k < j → s 43 k = m 1 (2 * k) ∧ s 44 k = m 1 (2 * k + 1)) _ 0 R ?_ ?_ 1000000 0 _ (by omega) (by omega) (by omega) ⟨fun a q1 q2 => rfl, fun k k0 k1 => by omega⟩
  · intro n s hI
    obtain ⟨i1, i3⟩ := hI
    show wp (M_tell_B119 _ _ _) _
    unfold M_tell_B119
    rw [i1 0 (by decide) (by decide), hR, if_neg (by omega)]
    exact wp_some ⟨rfl, i1, i3⟩
  · intro n j s q0 q1 hI hr
    obtain ⟨i1, i3⟩ := hI
    show wp (M_tell_B119 _ _ _) _
    unfold M_tell_B119
    rw [i1 0 (by decide) (by decide), hR, if_pos (by omega), wI_ok (x := 2 * j) (by omega) (by omega), wI_ok (x := 2 * j + 1) (by omega) (by omega), rd_ok (by omega) (by omega), wr_ok (by omega) (by omega), rd_ok (by omega) (by omega), wr_ok (by omega) (by omega), wI_ok (x := j + 1) (by omega) (by omega), ru1 (b := 1) (by decide), i1 1 (by decide) (by decide)]
    refine hr _ ⟨fun a q1 q2 => by rw [upm_ne q2, upm_ne q1, i1 a q1 q2], fun k k0 k1 => ?_⟩
    rw [ru1 (b := 43) (by decide)]
    by_cases e1 : k = j
    · subst e1
      rw [ru3 rfl rfl, ru3 rfl rfl]
      exact ⟨rfl, rfl⟩
    · rw [ru2 e1, ru2 e1, ru1 (b := 44) (by decide)]
      exact i3 k k0 (by omega)
theorem rs_tell {mC mM : zM} (h : Rel mC mM) : wp (C_tell mC) (fun a => wp (M_tell mM) (fun b => a.1 = b.1 ∧ Rel a.2 b.2)) := by
  obtain ⟨z, Z, S, b, hr⟩ := h.toZ
  obtain ⟨hz, h12, hs, hg, hu, hZ, hS⟩ := id hr
  obtain ⟨t1, t2, t3, t4⟩ := id hs.1
  have n2 := hg.ng
  obtain ⟨v, v1, v2, v3⟩ := holds_ok (m := mC) (f := Z 0 1) (s := Z 0 1) t2 t3
  have gE : GG Z S (upm mM 0 1 0) b 0 := ⟨hg.1.same (fun a a1 a2 => upm_ne (by omega)), hg.2.1.same hg.nb.2 n2.2 (fun a a1 a2 i _ _ => ru1 (by omega)), by rw [ru2 (by decide)]; exact hg.2.2.1, hg.2.2.2⟩
  have bad : M_tell_b30 (mC 2 1) (upm mM 0 1 0) = (M_refuses 5 (upm mM 0 1 0)).bind (fun r2 => some (r2.1, r2.2)) := by
    show M_tell_B34 _ _ _ _ _ _ = _
    unfold M_tell_B34
    by_cases c : 0 < mC 2 1
    · rw [if_pos c, if_pos p00]; rfl
    · rw [if_neg c]; rfl
  have no : wp (C_tell_b38 mC) (fun a => wp ((M_refuses 5 (upm mM 0 1 0)).bind (fun r2 => some (r2.1, r2.2))) (fun b => a.1 = b.1 ∧ Rel a.2 b.2)) := by
    unfold C_tell_b38 C_tell_b39 C_tell_b55
    rw [if_pos p00, pf_ok, if_pos p00]
    exact rs_none h.empty (by decide) (by decide)
  unfold C_tell M_tell
  rw [mro_ok h12 (kdz hz), mro_ok h12 (kdz hz), show mC z 1 = Z 0 1 from by rw [rZ0 hZ], v1, Option.bind_some, pf_ok, ← t1]
  by_cases q : 2 ≤ mC 2 1 ∧ mC 2 1 ≤ 32 ∧ mC 2 1 % 2 = 0
  · obtain ⟨w, w1, w2, w3⟩ := tellM_L (k100 := fun x1_1 x2_1 m2 => M_tell_b100 x1_1 x2_1 m2) gE q.2.1 q.2.2 (fun i i0 i1 => by rw [upm_ne (by decide), ← (t4 i i0 i1).1]; exact (t4 i i0 i1).2.1) (mC 2 1 / 2).toNat 1000000 1 0 (by omega) (by omega) (by omega) (Or.inr rfl)
    obtain ⟨u, u1, u2, u3⟩ := unlike_L (m := mC) q.2.1 (mC 2 1 / 2).toNat 1000000 0 (by omega) (by omega) (by omega)
    have vw : w = 1 ↔ v = 1 ∧ u = 1 := by
      rw [w3, v3, u3]
      constructor
      · intro t
        refine ⟨⟨q.1, q.2.1, q.2.2, fun j j0 j1 => ?_⟩, fun j j0 j1 j2 => ?_⟩
        · have := t.2.1 j j0 j1
          rw [upm_ne (by decide), ← (t4 j j0 j1).1] at this
          split <;> exact this
        · have := t.2.2 j j0 j1 j2
          rw [upm_ne (by decide), ← (t4 j j0 j1).1, ← (t4 (j + 1) (by omega) (by omega)).1] at this
          exact this
      · intro t
        refine ⟨rfl, fun j j0 j1 => ?_, fun j j0 j1 j2 => ?_⟩
        · have := t.1.2.2.2 j j0 j1
          rw [upm_ne (by decide), ← (t4 j j0 j1).1]
          split at this <;> exact this
        · rw [upm_ne (by decide), ← (t4 j j0 j1).1, ← (t4 (j + 1) (by omega) (by omega)).1]
          exact t.2 j j0 j1 j2
    rw [if_pos (show 0 < mC 2 1 by omega), rmI_n t2 (by omega) (by decide) (by decide), if_pos q.2.2, if_neg (show ¬ 32 < mC 2 1 by omega)]
    unfold M_tell_b31 Ta_pairsUnlike
    rw [w1, u1]
    show wp _ (fun a => wp (M_tell_b100 (mC 2 1) w (upm mM 0 1 0)) _)
    unfold M_tell_b100
    by_cases e : v = 1 ∧ u = 1
    · rw [if_neg (show ¬ v = 0 by omega), Option.bind_some, if_neg (show ¬ u = 0 by omega), if_neg (show ¬ w = 0 by have := vw.mpr e; omega)]
      unfold C_tell_b39 C_tell_b55
      rw [if_neg n10]
      refine wp_bm (wp_hear rfl (R := mC 2 1 / 2) (by omega) (by omega) (by omega)) (fun r ⟨r1, r2, r3⟩ => ?_)
      rw [pf_ok, if_neg n10, dvI_n t2 (by omega) (by decide) (by decide), pf_ok]
      refine wp_some (wp_mono (wp_told (R := mC 2 1 / 2) (by omega) (by omega) (ru3 rfl rfl)) (fun r' ⟨s1, s2, s3⟩ => ⟨?_, ?_⟩))
      · show upm r 2 1 0 40 0 = r'.1
        rw [ru1 (by decide), r2, s1]
      · show Rel (upm r 2 1 0) r'.2
        have m0 : ∀ j, j ≠ 1 → j ≠ 65 → r'.2 0 j = mM 0 j := fun j h1 h2 => by rw [s2 0 (by decide) (by decide), ru2 h2, ru2 h1]
        have ma : ∀ a, a ≠ 0 → a ≠ 43 → a ≠ 44 → r'.2 a = mM a := fun a h0 h1 h2 => by rw [s2 a h1 h2, upm_ne h0, upm_ne h0]
        have hRI := hs.2.2.2.2.1
        have hRR := hs.2.2.2.2.2.1
        have hfl := hs.2.1
        refine h.io ?_ ?_ ?_ ?_ ?_ ?_ ?_ ?_ ?_ ?_ ?_ ?_
        · rw [upm_ne (by decide), ru3 rfl rfl, s2 0 (by decide) (by decide), ru2 (by decide), ru3 rfl rfl]
          exact ⟨rfl, by omega, by omega, fun i i0 i1 => by omega⟩
        · rw [ru1 (by decide), ru1 (by decide), r1 1 (by decide) (by decide), m0 10 (by decide) (by decide), m0 11 (by decide) (by decide)]
          exact hfl
        · intro z' hz' h12'
          have ez : z' = z := by rw [h12] at h12'; omega
          subst ez
          rw [hZ]
          unfold RL
          rw [ru1 (by decide), r2, s2 0 (by decide) (by decide), ru3 rfl rfl, upm_ne (by decide)]
          refine ⟨rfl, by omega, by omega, fun k k0 k1 => ?_⟩
          have x := s3 k k0 k1
          rw [upm_ne (by decide), upm_ne (by decide)] at x
          have ta := t4 (2 * k) (by omega) (by omega)
          have tb := t4 (2 * k + 1) (by omega) (by omega)
          rw [r3 _ (by omega) (by omega), r3 _ (by omega) (by omega), x.1, x.2, ta.1, tb.1]
          have okp := (v3.mp e.1).2.2.2
          have o1 := okp (2 * k) (by omega) (by omega)
          have o2 := okp (2 * k + 1) (by omega) (by omega)
          rw [if_pos (by omega), ta.1] at o1
          rw [if_neg (by omega), tb.1] at o2
          exact ⟨⟨rfl, by omega, o1⟩, rfl, by omega, o2⟩
        · unfold RI
          rw [ru1 (by decide), upm_ne (by decide), r1 52 (by decide) (by decide), r1 53 (by decide) (by decide), m0 76 (by decide) (by decide), ma 52 (by decide) (by decide) (by decide)]
          exact hRI
        · rw [upm_ne (by decide), r1 54 (by decide) (by decide), ma 26 (by decide) (by decide) (by decide)]
          exact hRR
        · rw [upm_ne (by decide), r1 0 (by decide) (by decide)]
        · rw [upm_ne (by decide), r1 7 (by decide) (by decide)]
        · exact fun a a1 a2 => by rw [upm_ne (by omega), r1 a (by omega) (by omega)]
        · exact fun z' _ _ a a1 _ _ => by rw [upm_ne (by omega), r1 a (by omega) (by omega)]
        · exact ⟨m0 13 (by decide) (by decide), m0 56 (by decide) (by decide), m0 57 (by decide) (by decide), m0 58 (by decide) (by decide)⟩
        · exact fun a a1 a2 => ma a (by omega) (by omega) (by omega)
        · exact fun u _ _ a a1 a2 i _ _ => by rw [ma a (by omega) (by omega) (by omega)]
    · have w0 : w = 0 := by
        rcases w2 with x | x
        · exact x
        · exact absurd (vw.mp x) e
      rw [if_pos w0]
      by_cases ev : v = 0
      · rw [if_pos ev]
        exact no
      · rw [if_neg ev, Option.bind_some, if_pos (show u = 0 by omega)]
        exact no
  · have v0 : v = 0 := by
      rcases v2 with e | e
      · exact e
      · exact absurd (by have := v3.mp e; exact ⟨this.1, this.2.1, this.2.2.1⟩) q
    rw [if_pos v0]
    have eM : (if 0 < mC 2 1 then (if rmI (mC 2 1) 2 = 0 then (if 32 < mC 2 1 then M_tell_b30 (mC 2 1) (upm mM 0 1 0) else M_tell_b31 (mC 2 1) 1 (upm mM 0 1 0)) else M_tell_b30 (mC 2 1) (upm mM 0 1 0)) else M_tell_b30 (mC 2 1) (upm mM 0 1 0)) = M_tell_b30 (mC 2 1) (upm mM 0 1 0) := by
      rw [rmI_n t2 (by omega) (by decide) (by decide)]
      by_cases c1 : 0 < mC 2 1
      · rw [if_pos c1]
        by_cases c2 : mC 2 1 % 2 = 0
        · rw [if_pos c2]
          by_cases c3 : 32 < mC 2 1
          · rw [if_pos c3]
          · exact absurd ⟨by omega, by omega, c2⟩ q
        · rw [if_neg c2]
      · rw [if_neg c1]
    rw [eM, bad]
    exact no
