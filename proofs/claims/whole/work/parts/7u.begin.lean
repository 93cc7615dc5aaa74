/-! zoo: both begin anew -/
theorem tyS_c {f g : Int → Int} : ∀ n : Nat, (∀ j : Nat, j < n → f (j : Int) = g (j : Int)) → tyS f n = tyS g n
  | 0, _ => rfl
  | n + 1, h => by
    show (tyS f n).bind (tst (f n)) = (tyS g n).bind (tst (g n))
    rw [tyS_c n (fun j hj => h j (by omega)), h n (by omega)]
theorem FR.bank {l : Int} {cd : Int → Int} {m m' : zM} {b b' w mx : Int} {t : Bool} (h : FR l cd m b w t mx) (hb : b = 0 ∨ b = 1) (hb' : b' = 0 ∨ b' = 1) (ne : b ≠ b') (hw : w = 0 ∨ w = 1) (g : ∀ a, 2 ≤ a → a ≤ 18 → ∀ i, (i < bay a * b' ∨ bay a * b' + bay a ≤ i) → m' a i = m a i) : FR l cd m' b w t mx := by
  have e13 : m' 13 (2 * b + w) = m 13 (2 * b + w) := g 13 (by decide) (by decide) _ (by show _ < 2 * b' ∨ 2 * b' + 2 ≤ _; omega)
  have e14 : m' 14 (2 * b + w) = m 14 (2 * b + w) := g 14 (by decide) (by decide) _ (by show _ < 2 * b' ∨ 2 * b' + 2 ≤ _; omega)
  rcases h with ⟨h1, h2⟩ | ⟨h1, h2, h3, h4, h5, h6, h7⟩
  · exact Or.inl ⟨h1, by rw [e13]; exact h2⟩
  · have e15 : ∀ j, 0 ≤ j → j < l → m' 15 (1600 * b + m 13 (2 * b + w) + j) = m 15 (1600 * b + m 13 (2 * b + w) + j) := fun j j0 j1 => g 15 (by decide) (by decide) _ (by show _ < 1600 * b' ∨ 1600 * b' + 1600 ≤ _; omega)
    have e16 : ∀ j, 0 ≤ j → j < l → m' 16 (1600 * b + m 13 (2 * b + w) + j) = m 16 (1600 * b + m 13 (2 * b + w) + j) := fun j j0 j1 => g 16 (by decide) (by decide) _ (by show _ < 1600 * b' ∨ 1600 * b' + 1600 ≤ _; omega)
    have eT : ∀ n : Nat, (n : Int) ≤ l → tyS (fun j => m' 15 (1600 * b + m 13 (2 * b + w) + j)) n = tyS (fun j => m 15 (1600 * b + m 13 (2 * b + w) + j)) n := fun n hn => tyS_c n (fun j hj => e15 j (by omega) (by omega))
    unfold FR
    rw [e13, e14]
    refine Or.inr ⟨h1, h2, h3, h4, fun j j0 j1 => ?_, ?_, fun j T j1 hT => ?_⟩
    · rw [e15 j j0 j1, e16 j j0 j1]
      exact h5 j j0 j1
    · rw [eT _ (by omega)]
      exact h6
    · rw [eT j j1] at hT
      exact h7 j T j1 hT
theorem ZM.bank {Z m m' : zM} {b b' : Int} (h : ZM Z m b) (hb : b = 0 ∨ b = 1) (hb' : b' = 0 ∨ b' = 1) (ne : b ≠ b') (g : ∀ a, 2 ≤ a → a ≤ 18 → ∀ i, (i < bay a * b' ∨ bay a * b' + bay a ≤ i) → m' a i = m a i) : ZM Z m' b := by
  obtain ⟨h1, h2, h3, h4, h5, h6, h7, h8, h9, h10, h11, h12, ⟨p1, p2, p3, p4, p5⟩, h14, h15⟩ := h
  have n1 := h1.2.2
  have n2 := h2.2.2
  refine ⟨?_, ?_, ?_, ?_, ?_, ?_, ?_, ?_, ?_, ?_, ?_, ?_, ⟨?_, ?_, ?_, ?_, ?_⟩, h14.bank hb hb' ne (Or.inl rfl) g, h15.bank hb hb' ne (Or.inr rfl) g⟩
  · rw [g 2 (by decide) (by decide) _ (by show _ < 1 * b' ∨ 1 * b' + 1 ≤ _; omega)]; exact h1
  · rw [g 7 (by decide) (by decide) _ (by show _ < 1 * b' ∨ 1 * b' + 1 ≤ _; omega)]; exact h2
  · exact h3.congr fun i hi => g 3 (by decide) (by decide) _ (by have := hi.1; have := hi.2; show _ < 6 * b' ∨ 6 * b' + 6 ≤ _; omega)
  · exact h4.congr fun i hi => g 4 (by decide) (by decide) _ (by have := hi.1; have := hi.2; show _ < 6 * b' ∨ 6 * b' + 6 ≤ _; omega)
  · exact h5.congr fun i hi => g 5 (by decide) (by decide) _ (by have := hi.1; have := hi.2; show _ < 6 * b' ∨ 6 * b' + 6 ≤ _; omega)
  · exact h6.congr fun i hi => g 6 (by decide) (by decide) _ (by have := hi.1; have := hi.2; show _ < 18 * b' ∨ 18 * b' + 18 ≤ _; omega)
  · exact h7.congr fun i hi => g 9 (by decide) (by decide) _ (by have := hi.1; have := hi.2; show _ < 8 * b' ∨ 8 * b' + 8 ≤ _; omega)
  · exact h8.congr fun i hi => g 10 (by decide) (by decide) _ (by have := hi.1; have := hi.2; show _ < 8 * b' ∨ 8 * b' + 8 ≤ _; omega)
  · exact h9.congr fun i hi => g 11 (by decide) (by decide) _ (by have := hi.1; have := hi.2; show _ < 8 * b' ∨ 8 * b' + 8 ≤ _; omega)
  · exact h10.congr fun i hi => g 8 (by decide) (by decide) _ (by have := hi.1; have := hi.2; show _ < 24 * b' ∨ 24 * b' + 24 ≤ _; omega)
  · intro i i0 i1
    rw [g 17 (by decide) (by decide) _ (by show _ < 6 * b' ∨ 6 * b' + 6 ≤ _; omega)]
    exact h11 i i0 i1
  · intro i i0 i1
    rw [g 18 (by decide) (by decide) _ (by show _ < 8 * b' ∨ 8 * b' + 8 ≤ _; omega)]
    exact h12 i i0 i1
  · rw [g 12 (by decide) (by decide) _ (by show _ < 5 * b' ∨ 5 * b' + 5 ≤ _; omega)]; exact p1
  · rw [g 12 (by decide) (by decide) _ (by show _ < 5 * b' ∨ 5 * b' + 5 ≤ _; omega)]; exact p2
  · rw [g 12 (by decide) (by decide) _ (by show _ < 5 * b' ∨ 5 * b' + 5 ≤ _; omega)]; exact p3
  · rw [g 12 (by decide) (by decide) _ (by show _ < 5 * b' ∨ 5 * b' + 5 ≤ _; omega)]; exact p4
  · rw [g 12 (by decide) (by decide) _ (by show _ < 5 * b' ∨ 5 * b' + 5 ≤ _; omega)]; exact p5
/-- the class -/
theorem begin_C {z : Nat} {m : zM} (hz : z = 55 ∨ z = 72) : wp (St_begin 8 z m) (fun r => eqO [8, 9, 10, 11, 12, 13, 14] m r ∧ (r 8 0 = 0 ∧ r 8 1 = 0 ∧ r 8 2 = 0 ∧ r 8 10 = 0 ∧ r 8 11 = 0) ∧ (∀ j, 0 ≤ j → j < 24 → r 9 j = m (z + 10) j) ∧ (∀ j, 0 ≤ j → j < 18 → r 12 j = m (z + 5) j) ∧ (∀ j, 0 ≤ j → j < 8 → r 10 j = -1 ∧ r 11 j = 0) ∧ ∀ j, 0 ≤ j → j < 48 → r 13 j = 0 ∧ r 14 j = 0) := by
  unfold St_begin
  rw [pf_ok, pf_ok, pf_ok, ac_ok (by omega), ac_ok (by omega)]
  generalize hs : cpm (cpm (upm (upm (upm m 8 0 0) 8 1 0) 8 2 0) (z + 10) 0 (8 + 1) 0 24) (z + 5) 0 (8 + 4) 0 18 = s
  have s8 : s 8 0 = 0 ∧ s 8 1 = 0 ∧ s 8 2 = 0 := by
    subst hs
    simp (disch := omega) only [ru1, ru2, ru3, cpm_o, cpm_i, and_self]
  have s9 : ∀ j, 0 ≤ j → j < 24 → s 9 j = m (z + 10) j := by
    intro j j0 j1
    subst hs
    simp (disch := omega) only [ru1, ru2, ru3, cpm_o, cpm_i]
  have s12 : ∀ j, 0 ≤ j → j < 18 → s 12 j = m (z + 5) j := by
    intro j j0 j1
    subst hs
    simp (disch := omega) only [ru1, ru2, ru3, cpm_o, cpm_i]
  have sO : eqO [8, 9, 12] m s := by
    intro a ha
    simp only [List.mem_cons, List.not_mem_nil, or_false, not_or] at ha
    subst hs
    rw [cpm_ne ha.2.2, cpm_ne ha.2.1, upm_ne ha.1, upm_ne ha.1, upm_ne ha.1]
  refine wp_for (fun n i (m' : zM) => St_begin_L53 n 8 i m') (fun i m' => m' = stA s 13 (rng (s 13) i 0)) _ 0 48 ?_ ?_ 1000000 0 s (by omega) (by omega) (by omega) (by rw [rng_0, stA_self])
  · intro n m' hI
    subst hI
    show wp (St_begin_B53 _ _ _ _) _
    unfold St_begin_B53
    rw [if_neg (by omega), St_forgetDay_ok, Option.bind_some]
    unfold St_forgetRows
    rw [pf_ok, pf_ok, Option.bind_some]
    generalize hu : stA s 13 (rng (s 13) 48 0) = u
    have u1 : ∀ a, a ≠ 13 → u a = s a := fun a ha => by rw [← hu, stA_ne ha]
    have u13 : ∀ j, 0 ≤ j → j < 48 → u 13 j = 0 := fun j j0 j1 => by rw [← hu, stA_eq]; exact if_pos ⟨j0, j1⟩
    have f1 := fgm_fr (m := u) (o := 8)
    have f10 : ∀ j, 0 ≤ j → j < 8 → fgm 8 u 10 j = -1 := fun j j0 j1 => by
      unfold fgm
      rw [stA_ne (by decide), stA_ne (by decide)]
      show stA u 10 _ 10 j = _
      rw [stA_eq]
      exact if_pos ⟨j0, j1⟩
    have f11 : ∀ j, 0 ≤ j → j < 8 → fgm 8 u 11 j = 0 := fun j j0 j1 => by
      unfold fgm
      rw [stA_ne (by decide)]
      show stA _ 11 _ 11 j = _
      rw [stA_eq]
      exact if_pos ⟨j0, j1⟩
    have f14 : ∀ j, 0 ≤ j → j < 48 → fgm 8 u 14 j = 0 := fun j j0 j1 => by
      unfold fgm
      show stA _ 14 _ 14 j = _
      rw [stA_eq]
      exact if_pos ⟨j0, j1⟩
    have f8 : fgm 8 u 8 = s 8 := by rw [f1 8 (by decide), u1 8 (by decide)]
    refine wp_some ⟨?_, ⟨?_, ?_, ?_, ?_, ru3 rfl rfl⟩, fun j j0 j1 => ?_, fun j j0 j1 => ?_, fun j j0 j1 => ⟨?_, ?_⟩, fun j j0 j1 => ⟨?_, ?_⟩⟩
    · refine (sO.mono (by simp)).trans (fun a ha => ?_)
      simp only [List.mem_cons, List.not_mem_nil, or_false, not_or] at ha
      rw [upm_ne ha.1, upm_ne ha.1, f1 a (by simp; omega), u1 a (by omega)]
    · rw [ru2 (by decide), ru2 (by decide), f8]; exact s8.1
    · rw [ru2 (by decide), ru2 (by decide), f8]; exact s8.2.1
    · rw [ru2 (by decide), ru2 (by decide), f8]; exact s8.2.2
    · rw [ru2 (by decide), ru3 rfl rfl]
    · rw [ru1 (by decide), ru1 (by decide), f1 9 (by decide), u1 9 (by decide)]; exact s9 j j0 j1
    · rw [ru1 (by decide), ru1 (by decide), f1 12 (by decide), u1 12 (by decide)]; exact s12 j j0 j1
    · rw [ru1 (by decide), ru1 (by decide)]; exact f10 j j0 j1
    · rw [ru1 (by decide), ru1 (by decide)]; exact f11 j j0 j1
    · rw [ru1 (by decide), ru1 (by decide), f1 13 (by decide)]; exact u13 j j0 j1
    · rw [ru1 (by decide), ru1 (by decide)]; exact f14 j j0 j1
  · intro n i m' q0 q1 hI hr
    subst hI
    show wp (St_begin_B53 _ _ _ _) _
    unfold St_begin_B53
    rw [if_pos q1, wr_ok (by omega) (by omega), wI_ok (x := i + 1) (by omega) (by omega)]
    refine hr _ ?_
    show upm (stA s 13 (rng (s 13) i 0)) 13 i 0 = _
    rw [upm_stA, stA_stA, stA_eq, rng_s q0]
/-- the model -/
theorem begin_M {m : zM} {b : Int} (hb : m 0 13 = b) (b1 : b = 0 ∨ b = 1) : wp (M_begin m) (fun r => (∀ a, a ≠ 0 → (a < 27 ∨ 36 < a) → r a = m a) ∧ (∀ j, j ≠ 57 → j ≠ 65 → r 0 j = m 0 j) ∧ (r 0 57 = 0 ∧ r 0 65 = 0 ∧ r 27 0 = 0 ∧ r 28 0 = 0 ∧ r 35 0 = 0) ∧ (∀ j, 0 ≤ j → j < 24 → r 29 j = m 8 (24 * b + j)) ∧ (∀ j, 0 ≤ j → j < 18 → r 32 j = m 6 (18 * b + j)) ∧ (∀ j, 0 ≤ j → j < 8 → r 30 j = -1 ∧ r 31 j = 0) ∧ ∀ j, 0 ≤ j → j < 48 → r 33 j = 0 ∧ r 34 j = 0) := by
  have L16 : ∀ {K : zM → Option zM} {Q : zM → Prop} (u : zM), u 0 13 = b → (∀ s, eqO [29] u s → (∀ j, 0 ≤ j → j < 24 → s 29 j = u 8 (24 * b + j)) → wp (K s) Q) → wp (M_begin_L16 K 1000000 0 u) Q := by
    intro K Q u hu hK
    refine wp_for (fun n i (s : zM) => M_begin_L16 K n i s) (fun i s => eqO [29] u s ∧ ∀ j, 0 ≤ j → j < i → s 29 j = u 8 (24 * b + j)) _ 0 24 ?_ ?_ 1000000 0 u (by omega) (by omega) (by omega) ⟨eqO.refl, fun j j0 j1 => by omega⟩
    · intro n s hI
      show wp (M_begin_B16 _ _ _ _) _
      unfold M_begin_B16
      rw [if_neg (by omega)]
      exact hK s hI.1 hI.2
    · intro n i s q0 q1 hI hr
      show wp (M_begin_B16 _ _ _ _) _
      unfold M_begin_B16
      have e13 : s 0 13 = b := by rw [hI.1 0 (by decide)]; exact hu
      rw [if_pos q1, e13, wI_ok (x := 24 * b) (by omega) (by omega), wI_ok (x := 24 * b + i) (by omega) (by omega), rd_ok (by omega) (by omega), wr_ok (by omega) (by omega), wI_ok (x := i + 1) (by omega) (by omega)]
      refine hr _ ⟨hI.1.put (by simp), fun j j0 j1 => ?_⟩
      by_cases e : j = i
      · rw [e, ru3 rfl rfl, hI.1 8 (by decide)]
      · rw [ru2 e]
        exact hI.2 j j0 (by omega)
  have L50 : ∀ {K : zM → Option zM} {Q : zM → Prop} (u : zM), u 0 13 = b → (∀ s, eqO [32] u s → (∀ j, 0 ≤ j → j < 18 → s 32 j = u 6 (18 * b + j)) → wp (K s) Q) → wp (M_begin_L50 K 1000000 0 u) Q := by
    intro K Q u hu hK
    refine wp_for (fun n i (s : zM) => M_begin_L50 K n i s) (fun i s => eqO [32] u s ∧ ∀ j, 0 ≤ j → j < i → s 32 j = u 6 (18 * b + j)) _ 0 18 ?_ ?_ 1000000 0 u (by omega) (by omega) (by omega) ⟨eqO.refl, fun j j0 j1 => by omega⟩
    · intro n s hI
      show wp (M_begin_B50 _ _ _ _) _
      unfold M_begin_B50
      rw [if_neg (by omega)]
      exact hK s hI.1 hI.2
    · intro n i s q0 q1 hI hr
      show wp (M_begin_B50 _ _ _ _) _
      unfold M_begin_B50
      have e13 : s 0 13 = b := by rw [hI.1 0 (by decide)]; exact hu
      rw [if_pos q1, e13, wI_ok (x := 18 * b) (by omega) (by omega), wI_ok (x := 18 * b + i) (by omega) (by omega), rd_ok (by omega) (by omega), wr_ok (by omega) (by omega), wI_ok (x := i + 1) (by omega) (by omega)]
      refine hr _ ⟨hI.1.put (by simp), fun j j0 j1 => ?_⟩
      by_cases e : j = i
      · rw [e, ru3 rfl rfl, hI.1 6 (by decide)]
      · rw [ru2 e]
        exact hI.2 j j0 (by omega)
  have L84 : ∀ {K : zM → Option zM} {Q : zM → Prop} (u : zM), (∀ s, eqO [33] u s → (∀ j, 0 ≤ j → j < 48 → s 33 j = 0) → wp (K s) Q) → wp (M_begin_L84 K 1000000 0 u) Q := by
    intro K Q u hK
    refine wp_for (fun n i (s : zM) => M_begin_L84 K n i s) (fun i s => eqO [33] u s ∧ ∀ j, 0 ≤ j → j < i → s 33 j = 0) _ 0 48 ?_ ?_ 1000000 0 u (by omega) (by omega) (by omega) ⟨eqO.refl, fun j j0 j1 => by omega⟩
    · intro n s hI
      show wp (M_begin_B84 _ _ _ _) _
      unfold M_begin_B84
      rw [if_neg (by omega)]
      exact hK s hI.1 hI.2
    · intro n i s q0 q1 hI hr
      show wp (M_begin_B84 _ _ _ _) _
      unfold M_begin_B84
      rw [if_pos q1, wr_ok (by omega) (by omega), wI_ok (x := i + 1) (by omega) (by omega)]
      refine hr _ ⟨hI.1.put (by simp), fun j j0 j1 => ?_⟩
      by_cases e : j = i
      · rw [e, ru3 rfl rfl]
      · rw [ru2 e]
        exact hI.2 j j0 (by omega)
  unfold M_begin
  rw [wr_ok (by decide) (by decide), wr_ok (by decide) (by decide)]
  have E0 : eqO [27, 28] m (upm (upm m 27 0 0) 28 0 0) := (eqO.refl.put (by simp)).put (by simp)
  refine L16 _ (by rw [E0 0 (by decide)]; exact hb) (fun s1 k1 k1' => ?_)
  refine L50 _ (by rw [k1 0 (by decide), E0 0 (by decide)]; exact hb) (fun s2 k2 k2' => ?_)
  refine L84 _ (fun s3 k3 k3' => ?_)
  rw [dawns_ok (by decide) (by decide), Option.bind_some, wr_ok (by decide) (by decide), pf_ok, pf_ok]
  have f1 : ∀ a, a ≠ 30 → a ≠ 31 → a ≠ 34 → fgM 0 s3 a = s3 a := fun a h0 h1 h4 => by
    unfold fgM
    rw [stA_ne h4, stA_ne h1, stA_ne h0]
  have f30 : ∀ j, 0 ≤ j → j < 8 → fgM 0 s3 30 j = -1 := fun j j0 j1 => by
    unfold fgM
    rw [stA_ne (by decide), stA_ne (by decide), stA_eq]
    exact if_pos ⟨by omega, by omega⟩
  have f31 : ∀ j, 0 ≤ j → j < 8 → fgM 0 s3 31 j = 0 := fun j j0 j1 => by
    unfold fgM
    rw [stA_ne (by decide), stA_eq]
    exact if_pos ⟨by omega, by omega⟩
  have f34 : ∀ j, 0 ≤ j → j < 48 → fgM 0 s3 34 j = 0 := fun j j0 j1 => by
    unfold fgM
    rw [stA_eq]
    exact if_pos ⟨by omega, by omega⟩
  have fr : ∀ a, a ≠ 27 → a ≠ 28 → a ≠ 29 → a ≠ 30 → a ≠ 31 → a ≠ 32 → a ≠ 33 → a ≠ 34 → fgM 0 s3 a = m a := fun a q1 q2 q3 q4 q5 q6 q7 q8 => by
    rw [f1 a q4 q5 q8, k3 a (by simp; exact q7), k2 a (by simp; exact q6), k1 a (by simp; exact q3), E0 a (by simp; omega)]
  refine wp_some ⟨fun a a0 a1 => ?_, fun j j0 j1 => ?_, ⟨?_, ru3 rfl rfl, ?_, ?_, ?_⟩, fun j j0 j1 => ?_, fun j j0 j1 => ?_, fun j j0 j1 => ⟨?_, ?_⟩, fun j j0 j1 => ⟨?_, ?_⟩⟩
  · rw [upm_ne a0, upm_ne a0, upm_ne (by omega), fr a (by omega) (by omega) (by omega) (by omega) (by omega) (by omega) (by omega) (by omega)]
  · rw [ru2 j1, ru2 j0, ru1 (by decide), fr 0 (by decide) (by decide) (by decide) (by decide) (by decide) (by decide) (by decide) (by decide)]
  · rw [ru2 (by decide), ru3 rfl rfl]
  · rw [ru1 (by decide), ru1 (by decide), ru1 (by decide), f1 27 (by decide) (by decide) (by decide), k3 27 (by decide), k2 27 (by decide), k1 27 (by decide), ru1 (by decide), ru3 rfl rfl]
  · rw [ru1 (by decide), ru1 (by decide), ru1 (by decide), f1 28 (by decide) (by decide) (by decide), k3 28 (by decide), k2 28 (by decide), k1 28 (by decide), ru3 rfl rfl]
  · rw [ru1 (by decide), ru1 (by decide), ru3 rfl rfl]
  · rw [ru1 (by decide), ru1 (by decide), ru1 (by decide), f1 29 (by decide) (by decide) (by decide), k3 29 (by decide), k2 29 (by decide), k1' j j0 j1, E0 8 (by decide)]
  · rw [ru1 (by decide), ru1 (by decide), ru1 (by decide), f1 32 (by decide) (by decide) (by decide), k3 32 (by decide), k2' j j0 j1, k1 6 (by decide), E0 6 (by decide)]
  · rw [ru1 (by decide), ru1 (by decide), ru1 (by decide), f30 j j0 j1]
  · rw [ru1 (by decide), ru1 (by decide), ru1 (by decide), f31 j j0 j1]
  · rw [ru1 (by decide), ru1 (by decide), ru1 (by decide), f1 33 (by decide) (by decide) (by decide), k3' j j0 j1]
  · rw [ru1 (by decide), ru1 (by decide), ru1 (by decide), f34 j j0 j1]
/-- now, after both began -/
theorem SM.begin {Z S m' m : zM} {b : Int} (z : ZM Z m b) (c : (S 0 0 = 0 ∧ S 0 1 = 0 ∧ S 0 2 = 0 ∧ S 0 10 = 0 ∧ S 0 11 = 0) ∧ (∀ j, 0 ≤ j → j < 24 → S 1 j = Z 10 j) ∧ (∀ j, 0 ≤ j → j < 18 → S 4 j = Z 5 j) ∧ (∀ j, 0 ≤ j → j < 8 → S 2 j = -1 ∧ S 3 j = 0) ∧ ∀ j, 0 ≤ j → j < 48 → S 5 j = 0 ∧ S 6 j = 0) (h : (m' 27 0 = 0 ∧ m' 28 0 = 0 ∧ m' 35 0 = 0) ∧ (∀ j, 0 ≤ j → j < 24 → m' 29 j = m 8 (24 * b + j)) ∧ (∀ j, 0 ≤ j → j < 18 → m' 32 j = m 6 (18 * b + j)) ∧ (∀ j, 0 ≤ j → j < 8 → m' 30 j = -1 ∧ m' 31 j = 0) ∧ ∀ j, 0 ≤ j → j < 48 → m' 33 j = 0 ∧ m' 34 j = 0) : SM Z S m' 0 := by
  obtain ⟨⟨c1, c2, c3, c4, c5⟩, c6, c7, c8, c9⟩ := c
  obtain ⟨⟨h1, h2, h3⟩, h6, h7, h8, h9⟩ := h
  obtain ⟨z1, z2, z3, z4, z5, z6, z7, z8, z9, z10, zr⟩ := z
  have n1 := z1.2
  have n2 := z2.2
  refine ⟨⟨by omega, by omega, by omega, by omega, by omega⟩, ⟨by omega, by omega, by omega⟩, fun i hi => ?_, fun i hi => ?_, fun i hi => ?_, fun i hi => ?_, fun i hi => ?_, fun i hi => ?_, ⟨by omega, by omega, by omega, by omega, by omega⟩, fun k k0 k1 => by omega⟩
  · have w := z10 i hi
    have q0 := hi.1
    have q1 := hi.2
    rw [show 24 * (0 : Int) + i = i from by omega, h6 i q0 (by omega), c6 i q0 (by omega)]
    exact w
  · have q0 := hi.1
    have q1 := hi.2
    rw [show 8 * (0 : Int) + i = i from by omega, (h8 i q0 (by omega)).1, (c8 i q0 (by omega)).1]
    exact ⟨rfl, by omega, by omega⟩
  · have q0 := hi.1
    have q1 := hi.2
    rw [show 8 * (0 : Int) + i = i from by omega, (h8 i q0 (by omega)).2, (c8 i q0 (by omega)).2]
    exact ⟨rfl, by omega, by omega⟩
  · have w := z6 i hi
    have q0 := hi.1
    have q1 := hi.2
    rw [show 18 * (0 : Int) + i = i from by omega, h7 i q0 (by omega), c7 i q0 (by omega)]
    exact w
  · have q0 := hi.1
    have q1 := hi.2.1
    rw [show 48 * (0 : Int) + i = i from by omega, (h9 i q0 (by omega)).1, (c9 i q0 (by omega)).1]
    exact ⟨rfl, by omega, by omega⟩
  · have q0 := hi.1
    have q1 := hi.2.1
    rw [show 48 * (0 : Int) + i = i from by omega, (h9 i q0 (by omega)).2, (c9 i q0 (by omega)).2]
    exact ⟨rfl, by omega, by omega⟩
