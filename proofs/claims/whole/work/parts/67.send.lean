/-! send -/
def mlF (S : zM) (a b : Int) (L : List Int) : Int × Int := L.foldl (fun p w => if 0 < sbV S w a - sbV S w b then (p.1 + 1, p.2) else if sbV S w a - sbV S w b < 0 then (p.1, p.2 + 1) else p) (0, 0)
theorem mlF_app {S : zM} {a b w : Int} {L : List Int} : mlF S a b (L ++ [w]) = if 0 < sbV S w a - sbV S w b then ((mlF S a b L).1 + 1, (mlF S a b L).2) else if sbV S w a - sbV S w b < 0 then ((mlF S a b L).1, (mlF S a b L).2 + 1) else mlF S a b L := by
  unfold mlF
  rw [List.foldl_append]
  rfl
theorem mlF_b {S : zM} {a b : Int} (L : List Int) : ∀ j : Nat, j ≤ L.length → 0 ≤ (mlF S a b (L.take j)).1 ∧ 0 ≤ (mlF S a b (L.take j)).2 ∧ (mlF S a b (L.take j)).1 + (mlF S a b (L.take j)).2 ≤ (j : Int)
  | 0, _ => by
    rw [List.take_zero]
    exact ⟨Int.le_refl _, Int.le_refl _, Int.le_refl _⟩
  | j + 1, hj => by
    have ih := mlF_b (S := S) (a := a) (b := b) L j (by omega)
    rw [take_s (by omega), mlF_app]
    by_cases c : 0 < sbV S (L.getD j 0) a - sbV S (L.getD j 0) b
    · rw [if_pos c]
      exact ⟨by show 0 ≤ _ + 1; omega, ih.2.1, by show _ + 1 + _ ≤ _; omega⟩
    · rw [if_neg c]
      by_cases d : sbV S (L.getD j 0) a - sbV S (L.getD j 0) b < 0
      · rw [if_pos d]
        exact ⟨ih.1, by show 0 ≤ _ + 1; omega, by show _ + (_ + 1) ≤ _; omega⟩
      · rw [if_neg d]
        exact ⟨ih.1, ih.2.1, by omega⟩
def mlV (S : zM) (a b : Int) (L : List Int) : Int := max (max (mlF S a b L).1 (mlF S a b L).2) ((L.length : Int) - (mlF S a b L).1 - (mlF S a b L).2)
theorem mlV_b {S : zM} {a b : Int} {L : List Int} (hl : L.length ≤ 1000) : 0 ≤ mlV S a b L ∧ mlV S a b L ≤ 1000 := by
  have := mlF_b (S := S) (a := a) (b := b) L L.length (by omega)
  rw [List.take_of_length_le (by omega)] at this
  unfold mlV
  omega
theorem most_C {Z S mM m : zM} {bk a b : Int} {L : List Int} (h : GG Z S mM bk 0) (hS : sv m 8 = S) (hn : m 40 1 = (L.length : Int)) (hl : L.length ≤ 1000) (ha : arr (m 43) L) (hb : ∀ w ∈ L, 0 ≤ w ∧ w < 1000) (a0 : 0 ≤ a) (a1 : a < Z 0 1) (b0 : 0 ≤ b) (b1 : b < Z 0 1) : Gu_mostLeft 9 24 a b m = some (mlV S a b L) := by
  have K : ∀ (n j : Nat), j ≤ L.length → L.length - j < n → ∀ k58 : Int → Int → Option Int, Gu_mostLeft_L9 k58 m n 9 24 a b (mlF S a b (L.take j)).1 (mlF S a b (L.take j)).2 (j : Int) = k58 (mlF S a b L).1 (mlF S a b L).2 := by
    intro n
    induction n with
    | zero => intro j h1 h2; omega
    | succ n ih =>
      intro j h1 h2 k58
      show Gu_mostLeft_B9 _ _ _ _ _ _ _ _ _ _ = _
      unfold Gu_mostLeft_B9
      rw [hn]
      by_cases c : j < L.length
      · have hm : L.getD j 0 ∈ L := by
          rw [List.getD_eq_getElem?_getD, List.getElem?_eq_getElem c]
          exact List.getElem_mem c
        have bb := hb _ hm
        have mb := mlF_b (S := S) (a := a) (b := b) L j (by omega)
        rw [if_pos (by omega), rd_ok (by omega) (by omega), ha j c, lead_ok h hS bb.1 bb.2 a0 a1 b0 b1, Option.bind_some, wI_ok (x := (j : Int) + 1) (by omega) (by omega), wI_ok (x := (mlF S a b (L.take j)).1 + 1) (by omega) (by omega), wI_ok (x := (mlF S a b (L.take j)).2 + 1) (by omega) (by omega)]
        have i1 := ih (j + 1) (by omega) (by omega) k58
        rw [take_s c, mlF_app, show (((j + 1 : Nat) : Int)) = (j : Int) + 1 from by omega] at i1
        by_cases d : 0 < sbV S (L.getD j 0) a - sbV S (L.getD j 0) b
        · rw [if_pos d]
          rw [if_pos d] at i1
          exact i1
        · rw [if_neg d]
          rw [if_neg d] at i1
          by_cases e : sbV S (L.getD j 0) a - sbV S (L.getD j 0) b < 0
          · rw [if_pos e]
            rw [if_pos e] at i1
            exact i1
          · rw [if_neg e]
            rw [if_neg e] at i1
            exact i1
      · rw [if_neg (by omega), List.take_of_length_le (by omega)]
  have mb := mlF_b (S := S) (a := a) (b := b) L L.length (by omega)
  rw [List.take_of_length_le (by omega)] at mb
  have := K 1000000 0 (by omega) (by omega) (fun x4_1 x5_1 => some (max (max x4_1 x5_1) (wI ((wI ((m 40 1) - x4_1)) - x5_1))))
  rw [hn, wI_ok (x := (L.length : Int) - (mlF S a b L).1) (by omega) (by omega), wI_ok (by omega) (by omega)] at this
  unfold Gu_mostLeft
  rw [hn]
  exact this
theorem eq_for {σ α : Type} (L : Nat → Int → σ → Option α) (I : Int → σ → Prop) (lo N : Int) (hstep : ∀ n i s, lo ≤ i → i < N → I i s → ∃ s', I (i + 1) s' ∧ L (n + 1) i s = L n (i + 1) s') : ∀ (n : Nat) (i : Int) (s : σ), lo ≤ i → i ≤ N → N - i < (n : Int) → I i s → ∃ n' s', I N s' ∧ L n i s = L (n' + 1) N s' := by
  intro n
  induction n with
  | zero => intro i s h1 h2 h3; omega
  | succ n ih =>
    intro i s h1 h2 h3 hI
    by_cases e : i = N
    · subst e; exact ⟨n, s, hI, rfl⟩
    · obtain ⟨s', h4, h5⟩ := hstep n i s h1 (by omega) hI
      obtain ⟨n', s2, h6, h7⟩ := ih (i + 1) s' (by omega) (by omega) (by omega) h4
      exact ⟨n', s2, h6, by rw [h5, h7]⟩
theorem ways_M {k177 : Int → Int → Int → Int → Int → Int → zM → Option (Int × zM)} {Z S mM : zM} {bk R x1 x2 x3 x4 a b : Int} {ra ot : Int → Int} (h : GG Z S mM bk 0) (hR : mM 0 65 = R) (R0 : 0 ≤ R) (R1 : R ≤ 16) (hr : ∀ k, 0 ≤ k → k < R → (mM 43 k = ra k ∧ 0 ≤ ra k ∧ ra k < Z 0 1) ∧ (mM 44 k = ot k ∧ 0 ≤ ot k ∧ ot k < Z 0 1)) (a0 : 0 ≤ a) (a1 : a < Z 0 1) (b0 : 0 ≤ b) (b1 : b < Z 0 1) : ∃ m', eqO [45] mM m' ∧ m' 45 0 = (mlF S a b (fitL (tsW S ra ot R) 1000)).1 ∧ m' 45 1 = (mlF S a b (fitL (tsW S ra ot R) 1000)).2 ∧ m' 45 2 = ((fitL (tsW S ra ot R) 1000).length : Int) - (mlF S a b (fitL (tsW S ra ot R) 1000)).1 - (mlF S a b (fitL (tsW S ra ot R) 1000)).2 ∧ M_send_L81 (fun x1_4 x2_4 x3_4 x4_4 x5_4 x6_4 m5 => M_send_L104 k177 1000000 x1_4 x2_4 x3_4 x4_4 x5_4 x6_4 0 m5) 1000000 x1 x2 x3 x4 a b 0 mM = k177 x1 x2 x3 x4 a b m' := by
  have L : ∀ m0 : zM, eqO [45] mM m0 → m0 45 0 = 0 → m0 45 1 = 0 → m0 45 2 = 0 → ∃ m', eqO [45] mM m' ∧ m' 45 0 = (mlF S a b (fitL (tsW S ra ot R) 1000)).1 ∧ m' 45 1 = (mlF S a b (fitL (tsW S ra ot R) 1000)).2 ∧ m' 45 2 = ((fitL (tsW S ra ot R) 1000).length : Int) - (mlF S a b (fitL (tsW S ra ot R) 1000)).1 - (mlF S a b (fitL (tsW S ra ot R) 1000)).2 ∧ M_send_L104 k177 1000000 x1 x2 x3 x4 a b 0 m0 = k177 x1 x2 x3 x4 a b m' := by
    intro m0 z0 z1 z2 z3
    have st : ∀ (n : Nat) (i : Int) (s : zM), 0 ≤ i → i < 1000 → (fun i s => eqO [45] mM s ∧ s 45 0 = (mlF S a b (fitL (tsW S ra ot R) i.toNat)).1 ∧ s 45 1 = (mlF S a b (fitL (tsW S ra ot R) i.toNat)).2 ∧ s 45 2 = ((fitL (tsW S ra ot R) i.toNat).length : Int) - (mlF S a b (fitL (tsW S ra ot R) i.toNat)).1 - (mlF S a b (fitL (tsW S ra ot R) i.toNat)).2) i s → ∃ s', (fun i s => eqO [45] mM s ∧ s 45 0 = (mlF S a b (fitL (tsW S ra ot R) i.toNat)).1 ∧ s 45 1 = (mlF S a b (fitL (tsW S ra ot R) i.toNat)).2 ∧ s 45 2 = ((fitL (tsW S ra ot R) i.toNat).length : Int) - (mlF S a b (fitL (tsW S ra ot R) i.toNat)).1 - (mlF S a b (fitL (tsW S ra ot R) i.toNat)).2) (i + 1) s' ∧ (fun n i (s : zM) => M_send_L104 k177 n x1 x2 x3 x4 a b i s) (n + 1) i s = (fun n i (s : zM) => M_send_L104 k177 n x1 x2 x3 x4 a b i s) n (i + 1) s' := by
      intro n i s q0 q1 ⟨i1, i2, i3, i4⟩
      show ∃ s', _ ∧ M_send_B104 _ _ _ _ _ _ _ _ _ _ = _
      unfold M_send_B104 M_isTaste
      have ei : ((i.toNat : Nat) : Int) = i := by omega
      have en : (i + 1).toNat = i.toNat + 1 := by omega
      have hs : GG Z S s bk 0 := by
        obtain ⟨g1, g2, g3, g4⟩ := h
        exact ⟨g1.same (fun q w1 w2 => i1 q (by simp; omega)), g2.same g1.1.2.2 g1.2.1.2.2 (fun q w1 w2 j _ _ => by rw [i1 q (by simp; omega)]), by rw [i1 0 (by simp)]; exact g3, g4⟩
      have hR' : s 0 65 = R := by rw [i1 0 (by simp)]; exact hR
      have hr' : ∀ k, 0 ≤ k → k < R → (s 43 k = ra k ∧ 0 ≤ ra k ∧ ra k < Z 0 1) ∧ (s 44 k = ot k ∧ 0 ≤ ot k ∧ ot k < Z 0 1) := fun k k0 k1 => by rw [i1 43 (by simp), i1 44 (by simp)]; exact hr k k0 k1
      have ll := fitL_len (f := tsW S ra ot R) i.toNat
      have mb := mlF_b (S := S) (a := a) (b := b) (fitL (tsW S ra ot R) i.toNat) (fitL (tsW S ra ot R) i.toNat).length (by omega)
      rw [List.take_of_length_le (by omega)] at mb
      have sa := sbV_b h q0 q1 a0 a1
      have sb := sbV_b h q0 q1 b0 b1
      have eL : fitL (tsW S ra ot R) (i.toNat + 1) = if tsV S ra ot R i 1000000 0 = 0 then fitL (tsW S ra ot R) i.toNat else fitL (tsW S ra ot R) i.toNat ++ [i] := by
        show (if tsW S ra ot R ((i.toNat : Nat) : Int) = 0 then _ else _) = _
        rw [ei]
        rfl
      rw [if_pos q1, ts_M hs q0 q1 hR' R1 hr' 1000000 0 (by omega) R0 (by omega), Option.bind_some, wI_ok (x := i + 1) (by omega) (by omega)]
      by_cases c : tsV S ra ot R i 1000000 0 = 0
      · rw [if_pos c]
        rw [if_pos c] at eL
        exact ⟨s, by show eqO [45] mM (s) ∧ (s) 45 0 = (mlF S a b (fitL (tsW S ra ot R) (i + 1).toNat)).1 ∧ (s) 45 1 = (mlF S a b (fitL (tsW S ra ot R) (i + 1).toNat)).2 ∧ (s) 45 2 = ((fitL (tsW S ra ot R) (i + 1).toNat).length : Int) - (mlF S a b (fitL (tsW S ra ot R) (i + 1).toNat)).1 - (mlF S a b (fitL (tsW S ra ot R) (i + 1).toNat)).2; rw [en, eL]; exact ⟨i1, i2, i3, i4⟩, rfl⟩
      · rw [if_neg c]
        rw [if_neg c] at eL
        have el : ((fitL (tsW S ra ot R) i.toNat ++ [i]).length : Int) = ((fitL (tsW S ra ot R) i.toNat).length : Int) + 1 := by
          rw [List.length_append, List.length_singleton]; omega
        rw [suitsBy_ok hs q0 q1 a0 a1, suitsBy_ok hs q0 q1 b0 b1, Option.bind_some, Option.bind_some, lt_ok, wI_ok (by omega) (by omega)]
        by_cases d : 0 < sbV S i a - sbV S i b
        · rw [if_pos d, rd_ok (by decide) (by decide), wr_ok (by decide) (by decide), i2, wI_ok (by omega) (by omega)]
          refine ⟨_, ?_, rfl⟩
          show eqO [45] mM (upm _ _ _ _) ∧ (upm _ _ _ _) 45 0 = (mlF S a b (fitL (tsW S ra ot R) (i + 1).toNat)).1 ∧ (upm _ _ _ _) 45 1 = (mlF S a b (fitL (tsW S ra ot R) (i + 1).toNat)).2 ∧ (upm _ _ _ _) 45 2 = ((fitL (tsW S ra ot R) (i + 1).toNat).length : Int) - (mlF S a b (fitL (tsW S ra ot R) (i + 1).toNat)).1 - (mlF S a b (fitL (tsW S ra ot R) (i + 1).toNat)).2
          rw [en, eL, mlF_app, if_pos d, el]
          exact ⟨i1.put (by simp), ru3 rfl rfl, by rw [ru2 (by decide)]; exact i3, by rw [ru2 (by decide), i4]; show _ = _ + 1 - (_ + 1) - _; omega⟩
        · rw [if_neg d]
          by_cases e : sbV S i a - sbV S i b < 0
          · rw [if_pos e, rd_ok (by decide) (by decide), wr_ok (by decide) (by decide), i3, wI_ok (by omega) (by omega)]
            refine ⟨_, ?_, rfl⟩
            show eqO [45] mM (upm _ _ _ _) ∧ (upm _ _ _ _) 45 0 = (mlF S a b (fitL (tsW S ra ot R) (i + 1).toNat)).1 ∧ (upm _ _ _ _) 45 1 = (mlF S a b (fitL (tsW S ra ot R) (i + 1).toNat)).2 ∧ (upm _ _ _ _) 45 2 = ((fitL (tsW S ra ot R) (i + 1).toNat).length : Int) - (mlF S a b (fitL (tsW S ra ot R) (i + 1).toNat)).1 - (mlF S a b (fitL (tsW S ra ot R) (i + 1).toNat)).2
            rw [en, eL, mlF_app, if_neg d, if_pos e, el]
            exact ⟨i1.put (by simp), by rw [ru2 (by decide)]; exact i2, ru3 rfl rfl, by rw [ru2 (by decide), i4]; show _ = _ + 1 - _ - (_ + 1); omega⟩
          · rw [if_neg e, rd_ok (by decide) (by decide), wr_ok (by decide) (by decide), i4, wI_ok (by omega) (by omega)]
            refine ⟨_, ?_, rfl⟩
            show eqO [45] mM (upm _ _ _ _) ∧ (upm _ _ _ _) 45 0 = (mlF S a b (fitL (tsW S ra ot R) (i + 1).toNat)).1 ∧ (upm _ _ _ _) 45 1 = (mlF S a b (fitL (tsW S ra ot R) (i + 1).toNat)).2 ∧ (upm _ _ _ _) 45 2 = ((fitL (tsW S ra ot R) (i + 1).toNat).length : Int) - (mlF S a b (fitL (tsW S ra ot R) (i + 1).toNat)).1 - (mlF S a b (fitL (tsW S ra ot R) (i + 1).toNat)).2
            rw [en, eL, mlF_app, if_neg d, if_neg e, el]
            exact ⟨i1.put (by simp), by rw [ru2 (by decide)]; exact i2, by rw [ru2 (by decide)]; exact i3, by rw [ru3 rfl rfl]; omega⟩
    obtain ⟨n', s', ⟨e1, e2, e3, e4⟩, e5⟩ := eq_for (fun n i (s : zM) => M_send_L104 k177 n x1 x2 x3 x4 a b i s) (fun i s => eqO [45] mM s ∧ s 45 0 = (mlF S a b (fitL (tsW S ra ot R) i.toNat)).1 ∧ s 45 1 = (mlF S a b (fitL (tsW S ra ot R) i.toNat)).2 ∧ s 45 2 = ((fitL (tsW S ra ot R) i.toNat).length : Int) - (mlF S a b (fitL (tsW S ra ot R) i.toNat)).1 - (mlF S a b (fitL (tsW S ra ot R) i.toNat)).2) 0 1000 st 1000000 0 m0 (by omega) (by omega) (by omega) ⟨z0, z1, z2, z3⟩
    refine ⟨s', e1, e2, e3, e4, e5.trans ?_⟩
    show M_send_B104 _ _ _ _ _ _ _ _ _ _ = _
    unfold M_send_B104
    rw [if_neg (by omega)]
  have s1 : ∀ n (i : Int) (s : zM) (k : Int → Int → Int → Int → Int → Int → zM → Option (Int × zM)), 0 ≤ i → i < 3 → M_send_L81 k (n + 1) x1 x2 x3 x4 a b i s = M_send_L81 k n x1 x2 x3 x4 a b (i + 1) (upm s 45 i 0) := by
    intro n i s k i0 i1
    show M_send_B81 _ _ _ _ _ _ _ _ _ _ = _
    unfold M_send_B81
    rw [if_pos i1, wr_ok i0 (by omega), wI_ok (by omega) (by omega)]
  have e0 : M_send_L81 (fun x1_4 x2_4 x3_4 x4_4 x5_4 x6_4 m5 => M_send_L104 k177 1000000 x1_4 x2_4 x3_4 x4_4 x5_4 x6_4 0 m5) 1000000 x1 x2 x3 x4 a b 0 mM = M_send_L104 k177 1000000 x1 x2 x3 x4 a b 0 (upm (upm (upm mM 45 0 0) 45 (0 + 1) 0) 45 (0 + 1 + 1) 0) := by
    show M_send_L81 _ (999999 + 1) x1 x2 x3 x4 a b 0 mM = _
    rw [s1 999999 0 _ _ (by decide) (by decide)]
    show M_send_L81 _ (999998 + 1) x1 x2 x3 x4 a b _ _ = _
    rw [s1 999998 _ _ _ (by decide) (by decide)]
    show M_send_L81 _ (999997 + 1) x1 x2 x3 x4 a b _ _ = _
    rw [s1 999997 _ _ _ (by decide) (by decide)]
    show M_send_B81 _ _ _ _ _ _ _ _ _ _ = _
    unfold M_send_B81
    rw [if_neg (by decide)]
  rw [e0]
  refine L _ (((eqO.refl.put (by simp)).put (by simp)).put (by simp)) ?_ ?_ ?_
  · rw [ru2 (by decide), ru2 (by decide), ru3 rfl rfl]
  · rw [ru2 (by decide), ru3 rfl (by decide)]
  · rw [ru3 rfl (by decide)]
/-- the best pair so far, in both -/
def bestR (f : Int → Int) (best one two : Int) : Prop := (f 2 = -1 ∧ f 0 = -1 ∧ f 1 = -1 ∧ best = 100000000 ∧ one = -1 ∧ two = -1) ∨ (0 ≤ f 2 ∧ f 2 ≤ 1000 ∧ best = f 2 ∧ one = f 0 ∧ two = f 1)
theorem pair_L {kC : Int → Nat → Nat → Int → zM → Option zM} {kM : Int → Int → Int → Int → Int → zM → Option (Int × zM)} {Q : zM → Int × zM → Prop} {Z S mC0 mM0 : zM} {bk R x a : Int} {ra ot : Int → Int} {L : List Int} (h : GG Z S mM0 bk 0) (hS : sv mC0 8 = S) (hL : L = fitL (tsW S ra ot R) 1000) (hn : mC0 40 1 = (L.length : Int)) (ha : arr (mC0 43) L) (hR : mM0 0 65 = R) (R0 : 0 ≤ R) (R1 : R ≤ 16) (hr : ∀ k, 0 ≤ k → k < R → (mM0 43 k = ra k ∧ 0 ≤ ra k ∧ ra k < Z 0 1) ∧ (mM0 44 k = ot k ∧ 0 ≤ ot k ∧ ot k < Z 0 1)) (a0 : 0 ≤ a) (a1 : a < Z 0 1) (hk : ∀ mC mM best one two, eqO [41] mC0 mC → eqO [45] mM0 mM → bestR (mC 41) best one two → (0 ≤ mC 41 2 ∨ (a = 0 ∧ Z 0 1 = 1)) → wp (kC (Z 0 1) 9 24 a mC) (fun r => wp (kM x best one two a mM) (Q r))) : ∀ (d n k : Nat) (b : Int) (mC mM : zM) (best one two : Int), b + (d : Int) = Z 0 1 → a < b → d < n → d < k → eqO [41] mC0 mC → eqO [45] mM0 mM → bestR (mC 41) best one two → (0 ≤ mC 41 2 ∨ (a = 0 ∧ b = 1)) → wp (Gu_findPair_L31 kC n (Z 0 1) 9 24 a b mC) (fun r => wp (M_send_L64 kM k x best one two a b mM) (Q r)) := by
  have n2 := h.ng
  have n3 := h.bk
  have lL : L.length ≤ 1000 := by rw [hL]; exact fitL_len 1000
  have bL : ∀ w ∈ L, 0 ≤ w ∧ w < 1000 := by rw [hL]; exact fitL_b 1000
  intro d
  induction d with
  | zero =>
    intro n k b mC mM best one two hb hab hn' hk' c1 c2 c3 c4
    obtain ⟨n, rfl⟩ : ∃ q, n = q + 1 := ⟨n - 1, by omega⟩
    obtain ⟨k, rfl⟩ : ∃ q, k = q + 1 := ⟨k - 1, by omega⟩
    show wp (Gu_findPair_B31 _ _ _ _ _ _ _ _) (fun r => wp (M_send_B64 _ _ _ _ _ _ _ _ _) (Q r))
    unfold Gu_findPair_B31 M_send_B64
    rw [if_neg (by omega), c2 0 (by simp), h.2.2.1, rd_ok (by omega) (by omega), c2 7 (by simp), h.1.2.1.1, if_neg (by omega)]
    exact hk mC mM best one two c1 c2 c3 (by rcases c4 with q | q; exact Or.inl q; exact Or.inr ⟨q.1, by omega⟩)
  | succ d ih =>
    intro n k b mC mM best one two hb hab hn' hk' c1 c2 c3 c4
    obtain ⟨n, rfl⟩ : ∃ q, n = q + 1 := ⟨n - 1, by omega⟩
    obtain ⟨k, rfl⟩ : ∃ q, k = q + 1 := ⟨k - 1, by omega⟩
    have hM : GG Z S mM bk 0 := by
      obtain ⟨g1, g2, g3, g4⟩ := h
      exact ⟨g1.same (fun q w1 w2 => c2 q (by simp; omega)), g2.same g1.1.2.2 g1.2.1.2.2 (fun q w1 w2 j _ _ => by rw [c2 q (by simp; omega)]), by rw [c2 0 (by simp)]; exact g3, g4⟩
    have sC : sv mC 8 = S := by rw [← hS]; exact sv_eq fun q w => c1 _ (by simp; omega)
    have mo := most_C (a := a) (b := b) hM sC (by rw [c1 40 (by simp)]; exact hn) lL (by rw [c1 43 (by simp)]; exact ha) bL a0 a1 (by omega) (by omega)
    have mv := mlV_b (S := S) (a := a) (b := b) lL
    obtain ⟨m', w0, w1, w2, w3, w4⟩ := ways_M (k177 := fun x1_6 x2_6 x3_6 x4_6 x5_6 x6_6 m7 => rd 45 3 0 m7 (fun y8 =>
  rd 45 3 1 m7 (fun y9 =>
  (if y9 < y8 then
  rd 45 3 0 m7 (fun y11 =>
  M_send_b207 kM (M_send_L64 kM k) x1_6 x2_6 x3_6 x4_6 x5_6 x6_6 y11 m7)
  else rd 45 3 1 m7 (fun y12 =>
  M_send_b207 kM (M_send_L64 kM k) x1_6 x2_6 x3_6 x4_6 x5_6 x6_6 y12 m7))))) (x1 := x) (x2 := best) (x3 := one) (x4 := two) (a := a) (b := b) (ra := ra) (ot := ot) (R := R) hM (by rw [c2 0 (by simp)]; exact hR) R0 R1 (fun k k0 k1 => by rw [c2 43 (by simp), c2 44 (by simp)]; exact hr k k0 k1) a0 a1 (by omega) (by omega)
    rw [← hL] at w1 w2 w3
    have cm : eqO [45] mM0 m' := c2.trans w0
    -- the model's choice
    have eM : M_send_L64 kM (k + 1) x best one two a b mM = if mlV S a b L < best then M_send_L64 kM k x (mlV S a b L) a b a (b + 1) m' else M_send_L64 kM k x best one two a (b + 1) m' := by
      show M_send_B64 _ _ _ _ _ _ _ _ _ = _
      unfold M_send_B64
      rw [c2 0 (by simp), h.2.2.1, rd_ok (by omega) (by omega), c2 7 (by simp), h.1.2.1.1, if_pos (by omega), w4]
      have e231 : ∀ s0, s0 = mlV S a b L → M_send_b231 kM (M_send_L64 kM k) x best one two a b s0 m' = if mlV S a b L < best then M_send_L64 kM k x (mlV S a b L) a b a (b + 1) m' else M_send_L64 kM k x best one two a (b + 1) m' := by
        intro s0 hs0
        subst hs0
        unfold M_send_b231
        rw [wI_ok (by omega) (by omega)]
      have fin : ∀ y, y = max (mlF S a b L).1 (mlF S a b L).2 → M_send_b207 kM (M_send_L64 kM k) x best one two a b y m' = if mlV S a b L < best then M_send_L64 kM k x (mlV S a b L) a b a (b + 1) m' else M_send_L64 kM k x best one two a (b + 1) m' := by
        intro y hy
        unfold M_send_b207
        rw [rd_ok (by decide) (by decide), w3]
        by_cases q : y < (L.length : Int) - (mlF S a b L).1 - (mlF S a b L).2
        · rw [if_pos q, rd_ok (by decide) (by decide), w3]
          exact e231 _ (by unfold mlV; omega)
        · rw [if_neg q]
          exact e231 _ (by unfold mlV; omega)
      show rd 45 3 0 m' _ = _
      rw [rd_ok (by decide) (by decide), rd_ok (by decide) (by decide), w1, w2]
      by_cases q : (mlF S a b L).2 < (mlF S a b L).1
      · rw [if_pos q, rd_ok (by decide) (by decide), w1]
        exact fin _ (by omega)
      · rw [if_neg q, rd_ok (by decide) (by decide), w2]
        exact fin _ (by omega)
    rw [eM]
    show wp (Gu_findPair_B31 _ _ _ _ _ _ _ _) _
    unfold Gu_findPair_B31
    rw [if_pos (by omega), mo, Option.bind_some, rd_ok (by decide) (by decide), rd_ok (by decide) (by decide), wI_ok (x := b + 1) (by omega) (by omega), setT_ok (by decide) (by decide) (by decide), Option.bind_some]
    have stepU : wp (Gu_findPair_L31 kC n (Z 0 1) 9 24 a (b + 1) (upm (upm (upm mC 41 0 a) 41 (0 + 1) b) 41 (0 + 2) (mlV S a b L))) (fun r => wp (M_send_L64 kM k x (mlV S a b L) a b a (b + 1) m') (Q r)) := by
      have e2 : upm (upm (upm mC 41 0 a) 41 (0 + 1) b) 41 (0 + 2) (mlV S a b L) 41 2 = mlV S a b L := ru3 rfl (by decide)
      refine ih n k (b + 1) _ m' _ _ _ (by omega) (by omega) (by omega) (by omega) (((c1.put (by simp)).put (by simp)).put (by simp)) cm ?_ (Or.inl (by rw [e2]; exact mv.1))
      unfold bestR
      rw [e2, ru2 (j := 0) (by decide), ru2 (j := 0) (by decide), ru3 (j := 0) rfl rfl, ru2 (j := 1) (by decide), ru3 (j := 1) rfl (by decide)]
      exact Or.inr ⟨mv.1, mv.2, rfl, rfl, rfl⟩
    rcases id c3 with ⟨f1, f2, f3, f4, f5, f6⟩ | ⟨f1, f2, f3, f4, f5⟩
    · rw [if_pos f1, if_pos (show mlV S a b L < best by omega)]
      exact stepU
    · rw [if_neg (show ¬ mC 41 2 = -1 by omega)]
      by_cases q : mlV S a b L < mC 41 2
      · rw [if_pos q, if_pos (show mlV S a b L < best by omega)]
        exact stepU
      · rw [if_neg q, if_neg (show ¬ mlV S a b L < best by omega)]
        exact ih n k (b + 1) mC m' best one two (by omega) (by omega) (by omega) (by omega) c1 cm c3 (Or.inl f1)
theorem pair_O {kM : Int → Int → Int → Int → zM → Option (Int × zM)} {Q : zM → Int × zM → Prop} {Z S mC0 mM0 : zM} {bk R x : Int} {ra ot : Int → Int} {L : List Int} (h : GG Z S mM0 bk 0) (hS : sv mC0 8 = S) (hL : L = fitL (tsW S ra ot R) 1000) (hn : mC0 40 1 = (L.length : Int)) (ha : arr (mC0 43) L) (hR : mM0 0 65 = R) (R0 : 0 ≤ R) (R1 : R ≤ 16) (hr : ∀ k, 0 ≤ k → k < R → (mM0 43 k = ra k ∧ 0 ≤ ra k ∧ ra k < Z 0 1) ∧ (mM0 44 k = ot k ∧ 0 ≤ ot k ∧ ot k < Z 0 1)) (hng : 2 ≤ Z 0 1) (hk : ∀ mC mM best one two, eqO [41] mC0 mC → eqO [45] mM0 mM → bestR (mC 41) best one two → 0 ≤ mC 41 2 → wp (kM x best one two mM) (Q mC)) : ∀ (d n k : Nat) (a : Int) (mC mM : zM) (best one two : Int), a + (d : Int) = Z 0 1 → 0 ≤ a → d < n → d < k → eqO [41] mC0 mC → eqO [45] mM0 mM → bestR (mC 41) best one two → (0 ≤ mC 41 2 ∨ a = 0) → wp (Gu_findPair_L21 n (Z 0 1) 9 24 a mC) (fun r => wp (M_send_L44 kM k x best one two a mM) (Q r)) := by
  have n2 := h.ng
  have n3 := h.bk
  intro d
  induction d with
  | zero =>
    intro n k a mC mM best one two hb a0 hn' hk' c1 c2 c3 c4
    obtain ⟨n, rfl⟩ : ∃ q, n = q + 1 := ⟨n - 1, by omega⟩
    obtain ⟨k, rfl⟩ : ∃ q, k = q + 1 := ⟨k - 1, by omega⟩
    show wp (Gu_findPair_B21 _ _ _ _ _ _) (fun r => wp (M_send_B44 _ _ _ _ _ _ _ _) (Q r))
    unfold Gu_findPair_B21 M_send_B44
    rw [if_neg (by omega), c2 0 (by simp), h.2.2.1, rd_ok (by omega) (by omega), c2 7 (by simp), h.1.2.1.1, if_neg (by omega)]
    exact wp_some (hk mC mM best one two c1 c2 c3 (by rcases c4 with q | q; exact q; omega))
  | succ d ih =>
    intro n k a mC mM best one two hb a0 hn' hk' c1 c2 c3 c4
    obtain ⟨n, rfl⟩ : ∃ q, n = q + 1 := ⟨n - 1, by omega⟩
    obtain ⟨k, rfl⟩ : ∃ q, k = q + 1 := ⟨k - 1, by omega⟩
    show wp (Gu_findPair_B21 _ _ _ _ _ _) (fun r => wp (M_send_B44 _ _ _ _ _ _ _ _) (Q r))
    unfold Gu_findPair_B21 M_send_B44
    rw [if_pos (by omega), c2 0 (by simp), h.2.2.1, rd_ok (by omega) (by omega), c2 7 (by simp), h.1.2.1.1, if_pos (by omega), lt_ok, lt_ok, wI_ok (x := a + 1) (by omega) (by omega)]
    refine pair_L (Q := Q) h hS hL hn ha hR R0 R1 hr a0 (by omega) (fun mC' mM' best' one' two' e1 e2 e3 e4 => ?_) (Z 0 1 - (a + 1)).toNat 1000000 1000000 (a + 1) mC mM best one two (by omega) (by omega) (by omega) (by omega) c1 c2 c3 (by rcases c4 with q | q; exact Or.inl q; exact Or.inr ⟨q, by omega⟩)
    rw [wI_ok (x := a + 1) (by omega) (by omega)]
    exact ih n k (a + 1) mC' mM' best' one' two' (by omega) (by omega) (by omega) (by omega) e1 e2 e3 (by rcases e4 with q | q; exact Or.inl q; omega)
/-- few guests: no pair -/
theorem pair_few {Z : zM} {m : zM} (h0 : 0 ≤ Z 0 1) (h1 : Z 0 1 < 2) : Gu_findPair_L21 1000000 (Z 0 1) 9 24 0 m = some m := by
  show Gu_findPair_B21 (Gu_findPair_L21 999999) _ _ _ _ _ = _
  unfold Gu_findPair_B21
  by_cases c : 0 < Z 0 1
  · rw [if_pos c, lt_ok]
    show Gu_findPair_B31 _ _ _ _ _ _ _ _ = _
    unfold Gu_findPair_B31
    rw [if_neg (show ¬ wI (0 + 1) < Z 0 1 by rw [wI_ok (by decide) (by decide)]; omega)]
    show Gu_findPair_B21 (Gu_findPair_L21 999998) _ _ _ _ _ = _
    unfold Gu_findPair_B21
    rw [if_neg (show ¬ wI (0 + 1) < Z 0 1 by rw [wI_ok (by decide) (by decide)]; omega)]
  · rw [if_neg c]
theorem rs_send {mC mM : zM} {x : Int} (h : Rel mC mM) : wp (C_send x mC) (fun a => wp (M_send x mM) (fun b => a.1 = b.1 ∧ Rel a.2 b.2)) := by
  obtain ⟨z, Z, S, b, hr⟩ := h.toZ
  obtain ⟨hz, h12, hs, hg, hu, hZ, hS⟩ := id hr
  obtain ⟨w1, w2, w3, w4⟩ := id hs.2.2.2.1
  rw [hZ] at w4
  have n2 := hg.ng
  have n3 := hg.bk
  unfold C_send M_send
  rw [is_ok, Option.bind_some]
  by_cases c : 0 ≤ x ∧ x ≤ 2
  · rw [if_pos c, if_neg n10, if_neg (show ¬ x < 0 by omega), if_neg (show ¬ 2 < x by omega), hg.2.2.1, rd_ok (by omega) (by omega), hg.1.2.1.1]
    have hrM : ∀ k, 0 ≤ k → k < mC 40 0 → (mM 43 k = mM 43 k ∧ 0 ≤ mM 43 k ∧ mM 43 k < Z 0 1) ∧ (mM 44 k = mM 44 k ∧ 0 ≤ mM 44 k ∧ mM 44 k < Z 0 1) := fun k k0 k1 => ⟨⟨rfl, (w4 k k0 k1).1.2⟩, rfl, (w4 k k0 k1).2.2⟩
    refine wp_bm (wp_gather hg hS rfl w2 w3 w4) (fun r ⟨r1, r2, r3, r4⟩ => ?_)
    have lb := fitL_len (f := tsW S (mM 43) (mM 44) (mC 40 0)) 1000
    have tm : M_tastes 0 mM = some ((fitL (tsW S (mM 43) (mM 44) (mC 40 0)) 1000).length : Int) := by
      unfold M_tastes
      rw [is_ok, Option.bind_some, if_pos (show (0 : Int) ≤ 0 ∧ (0 : Int) ≤ 6 by decide), if_neg n10]
      have := tastes_M (k104 := fun x1_5 x2_5 x3_5 x4_5 => (if x1_5 = 0 then some x2_5 else (if x1_5 < 4 then some x3_5 else some x4_5))) (x := 0) hg w1.symm w2 w3 hrM (by decide) (by decide) rfl 1000 1000000 0 (by omega) (by omega)
      rw [if_pos p00] at this
      exact this
    have Rq : ∀ (r' mM' : zM), eqO [41] r r' → eqO [45] mM mM' → Rel r' mM' := by
      intro r' mM' q1 q2
      have rq : ∀ a, a ≠ 40 → a ≠ 43 → a ≠ 41 → r' a = mC a := fun a e1 e2 e3 => by rw [q1 a (by simp [e3]), r1 a e1 e2]
      refine h.io ?_ ?_ ?_ ?_ ?_ ?_ ?_ ?_ ?_ (by rw [q2 0 (by simp)]; exact ⟨rfl, rfl, rfl, rfl⟩) (fun a _ _ => q2 a (by simp; omega)) (fun u _ _ a _ _ i _ _ => by rw [q2 a (by simp; omega)])
      · rw [rq 3 (by decide) (by decide) (by decide), rq 2 (by decide) (by decide) (by decide), q2 0 (by simp), q2 1 (by simp)]; exact hs.1
      · rw [rq 1 (by decide) (by decide) (by decide), q2 0 (by simp)]; exact hs.2.1
      · intro z' hz' h12'
        have ez : z' = z := by rw [h12] at h12'; omega
        subst ez
        unfold RL
        rw [q1 40 (by simp), r2, rq 42 (by decide) (by decide) (by decide), q2 0 (by simp), q2 43 (by simp), q2 44 (by simp)]
        exact hs.2.2.2.1
      · unfold RI
        rw [rq 52 (by decide) (by decide) (by decide), rq 53 (by decide) (by decide) (by decide), q2 0 (by simp), q2 52 (by simp)]
        exact hs.2.2.2.2.1
      · rw [rq 54 (by decide) (by decide) (by decide), q2 26 (by simp)]; exact hs.2.2.2.2.2.1
      · exact rq 0 (by decide) (by decide) (by decide)
      · exact rq 7 (by decide) (by decide) (by decide)
      · exact fun a a1 a2 => rq a (by omega) (by omega) (by omega)
      · exact fun z' _ _ a a1 _ _ => rq a (by omega) (by omega) (by omega)
    have r12 : r 0 12 = (z : Int) + 1 := by rw [r1 0 (by decide) (by decide)]; exact h12
    have rz1 : r z 1 = Z 0 1 := by rw [r1 z (by omega) (by omega), rZ0 hZ]
    rw [mro_ok r12 (kdz hz), rz1]
    unfold Gu_findPair
    rw [setT_ok (by decide) (by decide) (by decide), Option.bind_some]
    have u0 : eqO [41] r (upm (upm (upm r 41 0 (-1)) 41 (0 + 1) (-1)) 41 (0 + 2) (-1)) := ((eqO.refl.put (by simp)).put (by simp)).put (by simp)
    have v0 : upm (upm (upm r 41 0 (-1)) 41 (0 + 1) (-1)) 41 (0 + 2) (-1) 41 0 = -1 := by rw [ru2 (by decide), ru2 (by decide), ru3 rfl rfl]
    have v1 : upm (upm (upm r 41 0 (-1)) 41 (0 + 1) (-1)) 41 (0 + 2) (-1) 41 1 = -1 := by rw [ru2 (by decide), ru3 rfl (by decide)]
    have v2 : upm (upm (upm r 41 0 (-1)) 41 (0 + 1) (-1)) 41 (0 + 2) (-1) 41 2 = -1 := ru3 rfl (by decide)
    generalize upm (upm (upm r 41 0 (-1)) 41 (0 + 1) (-1)) 41 (0 + 2) (-1) = r0 at *
    have vx : r0 41 x = -1 := by
      have : x = 0 ∨ x = 1 ∨ x = 2 := by omega
      rcases this with e | e | e <;> subst e <;> assumption
    have e40 : r0 40 1 = ((fitL (tsW S (mM 43) (mM 44) (mC 40 0)) 1000).length : Int) := by rw [u0 40 (by simp)]; exact r3
    have nope : wp (rd 41 3 x r0 (fun y11 => some (y11, r0))) (fun a => wp (some ((-1 : Int), mM)) (fun b => a.1 = b.1 ∧ Rel a.2 b.2)) := by
      rw [rd_ok c.1 (by omega), vx]
      exact wp_some (wp_some ⟨rfl, Rq r0 mM u0 eqO.refl⟩)
    by_cases g2 : Z 0 1 < 2
    · rw [if_pos g2]
      have e : (if r0 40 1 = 0 then some r0 else Gu_findPair_L21 1000000 (Z 0 1) 9 24 0 r0) = some r0 := by
        split
        · rfl
        · exact pair_few n2.1 g2
      rw [e, Option.bind_some]
      exact nope
    · rw [if_neg g2, tm, Option.bind_some]
      by_cases l0 : ((fitL (tsW S (mM 43) (mM 44) (mC 40 0)) 1000).length : Int) = 0
      · rw [if_pos l0, if_pos (show r0 40 1 = 0 by omega), Option.bind_some]
        exact nope
      · rw [if_neg l0, if_neg (show ¬ r0 40 1 = 0 by omega)]
        have s0 : sv r0 8 = S := by rw [← hS]; exact sv_eq fun q w => by rw [u0 _ (by simp; omega), r1 _ (by omega) (by omega)]
        refine wp_bind ?_
        have key := pair_O (kM := fun x1_12 x2_12 x3_12 x4_12 m13 => (if x1_12 = 0 then
  some (x3_12, m13)
  else (if x1_12 = 1 then
  some (x4_12, m13)
  else some (x2_12, m13)))) (Q := fun mC' b => mC' 41 x = b.1 ∧ Rel mC' b.2) (x := x) hg s0 rfl e40 (by rw [u0 43 (by simp)]; exact r4) w1.symm w2 w3 hrM (by omega) (fun mC' mM' best one two q1 q2 q3 q4 => by
          have R := Rq mC' mM' (u0.trans q1) q2
          rcases q3 with ⟨f1, _⟩ | ⟨f1, f2, f3, f4, f5⟩
          · omega
          · have : x = 0 ∨ x = 1 ∨ x = 2 := by omega
            rcases this with e | e | e <;> subst e
            · exact wp_some ⟨f4.symm, R⟩
            · exact wp_some ⟨f5.symm, R⟩
            · exact wp_some ⟨f3.symm, R⟩) (Z 0 1).toNat 1000000 1000000 0 r0 mM 100000000 (-1) (-1) (by omega) (by omega) (by omega) (by omega) eqO.refl eqO.refl (Or.inl ⟨v2, v0, v1, rfl, rfl, rfl⟩) (Or.inr rfl)
        refine wp_mono key (fun r' hr' => ?_)
        rw [rd_ok c.1 (by omega)]
        exact wp_some hr'
  · rw [if_neg c, if_pos p00]
    by_cases q : x < 0
    · rw [if_pos q]
      exact wp_some (wp_some ⟨rfl, h⟩)
    · rw [if_neg q, if_pos (by omega)]
      exact wp_some (wp_some ⟨rfl, h⟩)
