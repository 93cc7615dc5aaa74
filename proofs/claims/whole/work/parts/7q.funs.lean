/-! sums and tests: parts -/
theorem b276_F {m : zM} {x : Int} (h : 0 < m 0 8) : M_operand_b276 x m = some (0, m) := by
  have e : ∀ s, M_operand_b289 x s m = some (0, m) := fun s => by
    unfold M_operand_b289
    rw [opens_F h, Option.bind_some, if_neg (by omega)]
  unfold M_operand_b276
  rw [e, e]
  split <;> rfl
def FKD (kd code K : Int) : Prop := (kd = 328 ∧ code = 36 ∧ K = 3) ∨ (kd = 329 ∧ code = 37 ∧ K = 3) ∨ (kd = 323 ∧ code = 44 ∧ K = 6)
theorem fun_open {q : zQ} {i o P D kd code K : Int} {G : List zC} {T : List Bool} {mC mC' mM : zM} (hq : QH q) (hP : PRE q 0 i o G T P D mC mM) (hA : ArPre q i D mM) (hk : kdq q i = kd) (hkd : FKD kd code K) : i < xl (qc q) ∧ (∃ p, PM (qc q) (i + 1) p) ∧ (kdq q (i + 1) ≠ 40 → LVb q mM (fmC mC' 1 (plc (qc q) 1 (i + 1)))) ∧ (kdq q (i + 1) = 40 → o = 7 → LVb q mM (fmC mC' 5 (xm (qc q) 5 (i + 1)))) ∧ (kdq q (i + 1) = 40 → o ≤ 6 → ∃ u, RC mM u ∧ OU q P D mM u ∧ XQ q 0 (i + 2) (o + 1) G P (D + 1) u ∧ u 19 D = K ∧ u 20 D = 0 ∧ u 21 D = 1 ∧ u 22 D = code ∧ u 23 D = P) := by
  obtain ⟨h1, h2, h3, h4, h5, h6, h7, h8, h9, h10⟩ := hP
  have c7 : kdq q i ≠ 257 := by unfold FKD at hkd; omega
  have lt := h2.1.lt hq.1 (by show kdq q i ≠ 256; unfold FKD at hkd; omega) c7
  have bi := h2.1.i0 hq.1
  have hN := h2.1.N hq.1
  have mono := hq.1.mono h2.1.1.1 lt
  have h21 : XQ q 0 i o G P D (upm mM 21 (D - 1) 0) := h2.F (by decide)
  have e0 : M_operand mM = M_operand_b249 code (upm mM 21 (D - 1) 0) := by
    rw [op_171 h2 c7 h5.1 (by omega) hA.2]
    rcases hkd with ⟨a, b, _⟩ | ⟨a, b, _⟩ | ⟨a, b, _⟩
    · rw [b]; exact b171_min h21.1 (hk.trans a)
    · rw [b]; exact b171_max h21.1 (hk.trans a)
    · rw [b]; exact b171_if h21.1 (hk.trans a)
  obtain ⟨r, er, r1, r2⟩ := h21.ahead hq.1 lt
  have O1 : OU q P D mM r := (OU.start (q := q) (P := P) (D := D) (mM := mM)).step (r2.X : FX (qb q) (ql q) D P _ r) (Int.le_refl _) (Int.le_refl _)
  unfold M_operand_b249 at e0
  rw [er, Option.bind_some] at e0
  have hr8 := r1.1.2.2.2.1
  have hNr := r1.1.N hq.1
  refine ⟨lt, ⟨r, r1.1⟩, fun k40 => ?_, fun k40 o7 => ?_, fun k40 o6 => ?_⟩
  · by_cases k7 : kdq q (i + 1) = 257
    · have hf : 0 < fmM r 1 (plc (qc q) 1 (i + 1)) 0 8 := by rw [fmM_8]; decide
      rw [lex_bad r1.1 k7, Option.bind_some] at e0
      have sg : ∃ v, M_isSign 40 (fmM r 1 (plc (qc q) 1 (i + 1))) = some v := by
        unfold M_isSign
        split
        · split
          · exact ⟨_, rfl⟩
          · exact ⟨_, rfl⟩
        · exact ⟨_, rfl⟩
      obtain ⟨v, ev⟩ := sg
      rw [ev, Option.bind_some] at e0
      have e1 : M_operand mM = some (0, fmM r 1 (plc (qc q) 1 (i + 1))) := by
        by_cases cv : v = 0
        · rw [if_pos cv, blame_1 hf, Option.bind_some, b276_F hf] at e0
          exact e0
        · rw [if_neg cv, b276_F hf] at e0
          exact e0
      exact bad_O hq (by decide) h2 e1 (O1.1.mono (by omega) h6.1)
    · rw [lex_ok r1.1 k7, Option.bind_some, isSign_ok r1.1 k7 (by decide), Option.bind_some, if_neg k40, if_pos rfl, blame_0 hr8, Option.bind_some, b276_F (by rw [fmM_8]; decide), hNr.2.1, ← plc_1 k7] at e0
      exact bad_O hq (by decide) h2 e0 (O1.1.mono (by omega) h6.1)
  · have k7 : kdq q (i + 1) ≠ 257 := by omega
    have h40 := r1.2.1.2.2.2.1
    have e289 : ∀ K', M_operand_b289 code K' r = some (0, fmM r 5 (xm (qc q) 5 (i + 1))) := fun K' => by
      unfold M_operand_b289
      rw [opens_7 hr8 (by omega), Option.bind_some, if_neg (by rw [fmM_8]; decide), hNr.2.1]
    rw [lex_ok r1.1 k7, Option.bind_some, isSign_ok r1.1 k7 (by decide), Option.bind_some, if_pos k40, if_neg (show ¬ (1 : Int) = 0 by decide)] at e0
    unfold M_operand_b276 at e0
    rw [e289, e289] at e0
    have e1 : M_operand mM = some (0, fmM r 5 (xm (qc q) 5 (i + 1))) := by
      rw [e0]
      split <;> rfl
    exact bad_O hq (by decide) h2 e1 (O1.1.mono (by omega) h6.1)
  · have k7 : kdq q (i + 1) ≠ 257 := by omega
    have lt2 := r1.1.lt hq.1 (by show kdq q (i + 1) ≠ 256; omega) k7
    have mono2 := hq.1.mono r1.1.1.1 lt2
    obtain ⟨s, es, g1, g2, g3, g4, g5, g6⟩ := opens_ok (K := K) hq.1 r1 lt2 h4.1 (by omega) h5.1 (by omega) h6.1 (by omega)
    have e289 : M_operand_b289 code K r = some (0, upm s 22 D code) := by
      unfold M_operand_b289
      rw [es, Option.bind_some, if_pos g1.1.2.2.2.1, g1.2.1.2.2.1, wI_ok (x := D + 1 - 1) (by omega) (by omega), show D + 1 - 1 = D from by omega, wr_ok (by omega) (by omega)]
    rw [lex_ok r1.1 k7, Option.bind_some, isSign_ok r1.1 k7 (by decide), Option.bind_some, if_pos k40, if_neg (show ¬ (1 : Int) = 0 by decide)] at e0
    unfold M_operand_b276 at e0
    have e1 : M_operand mM = some (0, upm s 22 D code) := by
      rcases hkd with ⟨_, b, c⟩ | ⟨_, b, c⟩ | ⟨_, b, c⟩
      · rw [e0, if_neg (by omega), ← c]; exact e289
      · rw [e0, if_neg (by omega), ← c]; exact e289
      · rw [e0, if_pos b, ← c]; exact e289
    rw [show i + 1 + 1 = i + 2 from by omega] at g1 mono2
    have g1' : XQ q 0 (i + 2) (o + 1) G P (D + 1) (upm s 22 D code) := g1.F (by decide)
    refine ⟨upm (upm s 22 D code) 0 43 0, step_O h2.2.1.2.2.2.2.2 e1 g1'.1.2.2.2.1 (by rw [hN.2.1, g1'.1.at]; omega), (((O1.step g6 (Int.le_refl _) (by omega)).step (FX.refl.putF (by decide) (by decide) (Int.le_refl _) : FX (qb q) (ql q) D P s (upm s 22 D code)) (Int.le_refl _) (Int.le_refl _))).o43, g1'.o43, ?_, ?_, ?_, ?_, ?_⟩
    · rw [ru1 (by decide), ru1 (by decide)]; exact g2
    · rw [ru1 (by decide), ru1 (by decide)]; exact g3
    · rw [ru1 (by decide), ru1 (by decide)]; exact g4
    · rw [ru1 (by decide), ru3 rfl rfl]
    · rw [ru1 (by decide), ru1 (by decide)]; exact g5
/-- the class opens the bracket of min, max, if -/
theorem cfun_open {q : zQ} {i o : Int} {G : List zC} {mC : zM} (hq : QH q) (h : XC q i o G mC) : XC q (i + 1) o G (upm mC 1 7 (i + 1)) ∧ FCx q mC (upm mC 1 7 (i + 1)) := ⟨h.u1 hq (Or.inl ⟨rfl, rfl, rfl⟩), FCx.refl.put1 hq (by decide)⟩
/-- a bracket of two or three parts has been read: the class adds its code -/
theorem fun_end {q : zQ} {i i2 o P D code x : Int} {G : List zC} {T T2 : List Bool} {mC a2 mM mM3 : zM} (hq : QH q) (z3 : XC q i2 o G a2) (z4 : XQ q 1 i2 o (G ++ [(x, code, 0)]) P D mM3) (hw : WG (qx q) G T2) (ht : tst code T2 = some (false :: T)) (hT : (T.length : Int) ≤ 40) (hc : crel x code 0) (c30 : 30 ≤ code) (x0 : 0 ≤ x) (x1 : x ≤ 255) (o0 : 0 ≤ o) (o7 : o ≤ 7) (D0 : 1 ≤ D) (P0 : 0 ≤ P) (room : ql q + (G.length : Int) + 1 + P + D ≤ xm (qc q) 5 i2 + 1) (hi : i < i2) (R : RC mM mM3) (O : OU q P D mM mM3) (F : FCx q mC a2) : ∃ m', Fo_add (qz q) x 0 a2 = some m' ∧ LV q false 7 0 (Xar D mM tT) i o T P D mC mM (1, m') := by
  have hN := z4.1.N hq.1
  have lo := hq.2.2.1
  obtain ⟨mC2, c1, c2, c3⟩ := z3.add (s := code) (v := 0) (x := 0) (op := x) hq (by decide) (by decide) x0 x1 (by omega)
  rw [show (0 : Int) * 256 + x = x from by omega] at c2
  refine ⟨mC2, c1, Or.inl ⟨rfl, i2, _, [], G ++ [(x, code, 0)], mM3, hi, GD_0 c2 z4 (hw.push ht (by rw [List.length_cons]; omega) hc (Or.inr c30)) ?_ (by omega), R, O.1, O.2.1, ⟨O.2.2.1, O.2.2.2, trivial⟩⟩, F.trans c3⟩
  rw [List.length_append, List.length_singleton]
  omega
theorem min_S {q : zQ} {rcF : Nat → Int → zM → Option (Int × zM)} {o : Int} (hq : QH q) (Hs : o ≤ 6 → SumS q (rcF 0 0) (o + 1)) : FunS q (Pa_pairOfSums rcF 3) o 328 := by
  intro mC mM i G T P D hP hA hk
  obtain ⟨h1, h2, h3, h4, h5, h6, h7, h8, h9, h10⟩ := id hP
  have bi := h2.1.i0 hq.1
  have eD : D + 1 - 1 = D := by omega
  obtain ⟨X1, FC1⟩ := cfun_open hq h1
  obtain ⟨lt, ⟨pm, hpm⟩, f1, f2, f3⟩ := fun_open (mC' := upm mC 1 7 (i + 1)) (code := 36) (K := 3) hq hP hA hk (by unfold FKD; omega)
  have mono := hq.1.mono h2.1.1.1 lt
  unfold Pa_pairOfSums
  rw [h1.1.2, wI_ok (x := i + 1) (by omega) (by omega), pf_ok]
  by_cases k40 : kdq q (i + 1) = 40
  · by_cases o7 : o = 7
    · rw [opening_7 hq X1 hpm o7 k40, Option.bind_some, if_pos rfl]
      exact wp_some (LV.bad (f2 k40 o7) (FC1.trans (fmC_K.x hq)))
    · have o6 : o ≤ 6 := by omega
      obtain ⟨u, R1, O1, X2, u19, u20, u21, u22, u23⟩ := f3 k40 o6
      have mono2 := hq.1.mono hpm.1.1 (hpm.lt hq.1 (by show kdq q (i + 1) ≠ 256; omega) (by show kdq q (i + 1) ≠ 257; omega))
      rw [show i + 1 + 1 = i + 2 from by omega] at mono2
      rw [opening_1 hq X1 hpm h4.1 (by omega) k40, Option.bind_some, if_neg (show ¬ (1 : Int) = 0 by decide), show i + 1 + 1 = i + 2 from by omega]
      have XC2 : XC q (i + 2) (o + 1) G (upm (upm (upm mC 1 7 (i + 1)) 1 6 (o + 1)) 1 7 (i + 2)) := (X1.u1 hq (o' := o + 1) (Or.inr ⟨rfl, rfl, rfl⟩)).u1 hq (Or.inl ⟨rfl, rfl, rfl⟩)
      have FC2 : FCx q mC (upm (upm (upm mC 1 7 (i + 1)) 1 6 (o + 1)) 1 7 (i + 2)) := (FC1.put1 hq (by decide)).put1 hq (by decide)
      have hw : PRE q 2 (i + 2) (o + 1) G T P (D + 1) (upm (upm (upm mC 1 7 (i + 1)) 1 6 (o + 1)) 1 7 (i + 2)) u := ⟨XC2, X2, h3, ⟨by omega, by omega⟩, ⟨by omega, by omega⟩, ⟨h6.1, by omega⟩, by omega, by omega, by rw [eD, u23]; exact h6.1, by rw [eD, u23]; exact Int.le_refl _⟩
      refine wp_bm (Hs o6 _ _ _ _ _ _ _ hw (Or.inl (by rw [eD, u23])) ⟨by rw [eD, u20]; decide, fun w => by rw [eD, u19] at w; unfold isT at w; omega⟩) (fun p ⟨y, yf⟩ => ?_)
      rcases y with ⟨y1, i2, G2, Eb2, M2, mM2, y2, y3, y4, y5, y6, y7⟩ | ⟨y1, y2⟩
      · rw [if_neg (by omega)]
        unfold KF Xar at *
        rw [eD] at y5 y6 y7
        have O2 := O1.step y5 (Int.le_refl _) (Int.le_refl _)
        refine wp_bm (comma_J (K := 3) (K' := 4) hq y3 (by omega) (by omega) (by decide) (by omega) (by omega) h6.1 (by omega) (by decide) (by rw [eD, y6.2.2, u23]) (by rw [eD, y6.1, u19]) (Or.inl ⟨rfl, rfl⟩) (fun _ => y7.2.2) (fun w => by unfold isT at w; omega)) (fun s ⟨z, zf⟩ => ?_)
        rcases z with ⟨z1, mM3, z2, z3, z4, z5, z6, z7, z8, z9⟩ | ⟨z1, z2⟩
        · rw [if_neg (by omega)]
          rw [eD] at z5 z6 z7
          have lt2 := y3.2.1.1.lt hq.1 (by show kdq q i2 ≠ 256; omega) (by show kdq q i2 ≠ 257; omega)
          have mono3 := hq.1.mono y3.2.1.1.1.1 lt2
          have room := y3.2.2.2.2.2.2.1
          have v23 : mM3 23 D = P := by rw [z8 23 (by omega), y6.2.2, u23]
          have v22 : mM3 22 D = 36 := by rw [z8 22 (by omega), y6.2.1, u22]
          have O3 := O2.step z5 (Int.le_refl _) (by omega)
          have hw2 : PRE q 2 (i2 + 1) (o + 1) G2 (false :: T) P (D + 1) s.2 mM3 := ⟨z3, z4, y3.2.2.2.2.2.1, ⟨by omega, by omega⟩, ⟨by omega, by omega⟩, ⟨h6.1, by omega⟩, by rw [List.length_cons]; omega, by omega, by rw [eD, v23]; exact h6.1, by rw [eD, v23]; exact Int.le_refl _⟩
          refine wp_bm (Hs o6 _ _ _ _ _ _ _ hw2 (Or.inl (by rw [eD, v23])) ⟨by rw [eD, z7]; decide, fun w => by rw [eD, z6] at w; unfold isT at w; omega⟩) (fun p2 ⟨x, xf⟩ => ?_)
          rcases x with ⟨x1, i3, G3, Eb3, M3, mM4, x2, x3, x4, x5, x6, x7⟩ | ⟨x1, x2⟩
          · rw [if_neg (by omega)]
            unfold KF Xar at *
            rw [eD] at x5 x6 x7
            have O4 := O3.step x5 (Int.le_refl _) (Int.le_refl _)
            refine wp_bm (close_J (K := 4) (ch := 41) (x := 3) hq x3 h4.1 o6 (by decide) h5.1 (by omega) h6.1 (by omega) (by decide) (by rw [x6.2.2, v23]) (by rw [x6.1, z6]) (Or.inr (Or.inl ⟨rfl, rfl⟩)) (fun _ => x7.2.2) (fun w => by unfold isT at w; omega)) (fun s2 ⟨t, tf⟩ => ?_)
            rcases t with ⟨t1, mM5, t2, t3, t4, t5, t6, t7, t8⟩ | ⟨t1, t2⟩
            · rw [if_neg (by omega)]
              rw [if_pos rfl, x6.2.1, v22] at t4
              rw [if_neg (by decide)] at t6
              have lt3 := x3.2.1.1.lt hq.1 (by show kdq q i3 ≠ 256; omega) (by show kdq q i3 ≠ 257; omega)
              have mono4 := hq.1.mono x3.2.1.1.1.1 lt3
              have room3 := x3.2.2.2.2.2.2.1
              have O5 : OU q P D mM mM5 := ⟨O4.1.trans (t5.mono (Int.le_refl _) (by omega)), O4.2.1.trans ⟨t7 19 (by omega), t7 22 (by omega), t7 23 (by omega)⟩, by rw [t6]; exact O4.2.2.1, by rw [t7 21 (by omega)]; exact O4.2.2.2⟩
              obtain ⟨m', e', g'⟩ := fun_end (i := i) (code := 36) (x := 3) (T2 := false :: false :: T) (T := T) hq t3 t4 x3.2.2.2.2.2.1 rfl (by omega) (by unfold crel; decide) (by decide) (by decide) (by decide) h4.1 h4.2 h5.1 h6.1 (by omega) (by omega) ((((R1.trans y4).trans z2).trans x4).trans t2) O5 (((((FC2.trans yf).trans zf).trans xf).trans tf))
              rw [mro_ok (z := qz q) t3.2.1 (kdf hq), e', Option.bind_some]
              exact wp_some g'
            · rw [if_pos t1]
              exact wp_some (LV.bad (t2.after (((R1.trans y4).trans z2).trans x4) O4.1) ((((FC2.trans yf).trans zf).trans xf).trans tf))
          · rw [if_pos x1]
            exact wp_some (LV.bad (x2.after ((R1.trans y4).trans z2) O3.1) (((FC2.trans yf).trans zf).trans xf))
        · rw [if_pos z1]
          exact wp_some (LV.bad (z2.after (R1.trans y4) O2.1) ((FC2.trans yf).trans zf))
      · rw [if_pos y1]
        exact wp_some (LV.bad (y2.after R1 O1.1) (FC2.trans yf))
  · rw [opening_0 hq X1 hpm k40, Option.bind_some, if_pos rfl]
    exact wp_some (LV.bad (f1 k40) (FC1.trans (fmC_K.x hq)))
theorem max_S {q : zQ} {rcF : Nat → Int → zM → Option (Int × zM)} {o : Int} (hq : QH q) (Hs : o ≤ 6 → SumS q (rcF 0 0) (o + 1)) : FunS q (Pa_pairOfSums rcF 4) o 329 := by
  intro mC mM i G T P D hP hA hk
  obtain ⟨h1, h2, h3, h4, h5, h6, h7, h8, h9, h10⟩ := id hP
  have bi := h2.1.i0 hq.1
  have eD : D + 1 - 1 = D := by omega
  obtain ⟨X1, FC1⟩ := cfun_open hq h1
  obtain ⟨lt, ⟨pm, hpm⟩, f1, f2, f3⟩ := fun_open (mC' := upm mC 1 7 (i + 1)) (code := 37) (K := 3) hq hP hA hk (by unfold FKD; omega)
  have mono := hq.1.mono h2.1.1.1 lt
  unfold Pa_pairOfSums
  rw [h1.1.2, wI_ok (x := i + 1) (by omega) (by omega), pf_ok]
  by_cases k40 : kdq q (i + 1) = 40
  · by_cases o7 : o = 7
    · rw [opening_7 hq X1 hpm o7 k40, Option.bind_some, if_pos rfl]
      exact wp_some (LV.bad (f2 k40 o7) (FC1.trans (fmC_K.x hq)))
    · have o6 : o ≤ 6 := by omega
      obtain ⟨u, R1, O1, X2, u19, u20, u21, u22, u23⟩ := f3 k40 o6
      have mono2 := hq.1.mono hpm.1.1 (hpm.lt hq.1 (by show kdq q (i + 1) ≠ 256; omega) (by show kdq q (i + 1) ≠ 257; omega))
      rw [show i + 1 + 1 = i + 2 from by omega] at mono2
      rw [opening_1 hq X1 hpm h4.1 (by omega) k40, Option.bind_some, if_neg (show ¬ (1 : Int) = 0 by decide), show i + 1 + 1 = i + 2 from by omega]
      have XC2 : XC q (i + 2) (o + 1) G (upm (upm (upm mC 1 7 (i + 1)) 1 6 (o + 1)) 1 7 (i + 2)) := (X1.u1 hq (o' := o + 1) (Or.inr ⟨rfl, rfl, rfl⟩)).u1 hq (Or.inl ⟨rfl, rfl, rfl⟩)
      have FC2 : FCx q mC (upm (upm (upm mC 1 7 (i + 1)) 1 6 (o + 1)) 1 7 (i + 2)) := (FC1.put1 hq (by decide)).put1 hq (by decide)
      have hw : PRE q 2 (i + 2) (o + 1) G T P (D + 1) (upm (upm (upm mC 1 7 (i + 1)) 1 6 (o + 1)) 1 7 (i + 2)) u := ⟨XC2, X2, h3, ⟨by omega, by omega⟩, ⟨by omega, by omega⟩, ⟨h6.1, by omega⟩, by omega, by omega, by rw [eD, u23]; exact h6.1, by rw [eD, u23]; exact Int.le_refl _⟩
      refine wp_bm (Hs o6 _ _ _ _ _ _ _ hw (Or.inl (by rw [eD, u23])) ⟨by rw [eD, u20]; decide, fun w => by rw [eD, u19] at w; unfold isT at w; omega⟩) (fun p ⟨y, yf⟩ => ?_)
      rcases y with ⟨y1, i2, G2, Eb2, M2, mM2, y2, y3, y4, y5, y6, y7⟩ | ⟨y1, y2⟩
      · rw [if_neg (by omega)]
        unfold KF Xar at *
        rw [eD] at y5 y6 y7
        have O2 := O1.step y5 (Int.le_refl _) (Int.le_refl _)
        refine wp_bm (comma_J (K := 3) (K' := 4) hq y3 (by omega) (by omega) (by decide) (by omega) (by omega) h6.1 (by omega) (by decide) (by rw [eD, y6.2.2, u23]) (by rw [eD, y6.1, u19]) (Or.inl ⟨rfl, rfl⟩) (fun _ => y7.2.2) (fun w => by unfold isT at w; omega)) (fun s ⟨z, zf⟩ => ?_)
        rcases z with ⟨z1, mM3, z2, z3, z4, z5, z6, z7, z8, z9⟩ | ⟨z1, z2⟩
        · rw [if_neg (by omega)]
          rw [eD] at z5 z6 z7
          have lt2 := y3.2.1.1.lt hq.1 (by show kdq q i2 ≠ 256; omega) (by show kdq q i2 ≠ 257; omega)
          have mono3 := hq.1.mono y3.2.1.1.1.1 lt2
          have room := y3.2.2.2.2.2.2.1
          have v23 : mM3 23 D = P := by rw [z8 23 (by omega), y6.2.2, u23]
          have v22 : mM3 22 D = 37 := by rw [z8 22 (by omega), y6.2.1, u22]
          have O3 := O2.step z5 (Int.le_refl _) (by omega)
          have hw2 : PRE q 2 (i2 + 1) (o + 1) G2 (false :: T) P (D + 1) s.2 mM3 := ⟨z3, z4, y3.2.2.2.2.2.1, ⟨by omega, by omega⟩, ⟨by omega, by omega⟩, ⟨h6.1, by omega⟩, by rw [List.length_cons]; omega, by omega, by rw [eD, v23]; exact h6.1, by rw [eD, v23]; exact Int.le_refl _⟩
          refine wp_bm (Hs o6 _ _ _ _ _ _ _ hw2 (Or.inl (by rw [eD, v23])) ⟨by rw [eD, z7]; decide, fun w => by rw [eD, z6] at w; unfold isT at w; omega⟩) (fun p2 ⟨x, xf⟩ => ?_)
          rcases x with ⟨x1, i3, G3, Eb3, M3, mM4, x2, x3, x4, x5, x6, x7⟩ | ⟨x1, x2⟩
          · rw [if_neg (by omega)]
            unfold KF Xar at *
            rw [eD] at x5 x6 x7
            have O4 := O3.step x5 (Int.le_refl _) (Int.le_refl _)
            refine wp_bm (close_J (K := 4) (ch := 41) (x := 4) hq x3 h4.1 o6 (by decide) h5.1 (by omega) h6.1 (by omega) (by decide) (by rw [x6.2.2, v23]) (by rw [x6.1, z6]) (Or.inr (Or.inl ⟨rfl, rfl⟩)) (fun _ => x7.2.2) (fun w => by unfold isT at w; omega)) (fun s2 ⟨t, tf⟩ => ?_)
            rcases t with ⟨t1, mM5, t2, t3, t4, t5, t6, t7, t8⟩ | ⟨t1, t2⟩
            · rw [if_neg (by omega)]
              rw [if_pos rfl, x6.2.1, v22] at t4
              rw [if_neg (by decide)] at t6
              have lt3 := x3.2.1.1.lt hq.1 (by show kdq q i3 ≠ 256; omega) (by show kdq q i3 ≠ 257; omega)
              have mono4 := hq.1.mono x3.2.1.1.1.1 lt3
              have room3 := x3.2.2.2.2.2.2.1
              have O5 : OU q P D mM mM5 := ⟨O4.1.trans (t5.mono (Int.le_refl _) (by omega)), O4.2.1.trans ⟨t7 19 (by omega), t7 22 (by omega), t7 23 (by omega)⟩, by rw [t6]; exact O4.2.2.1, by rw [t7 21 (by omega)]; exact O4.2.2.2⟩
              obtain ⟨m', e', g'⟩ := fun_end (i := i) (code := 37) (x := 4) (T2 := false :: false :: T) (T := T) hq t3 t4 x3.2.2.2.2.2.1 rfl (by omega) (by unfold crel; decide) (by decide) (by decide) (by decide) h4.1 h4.2 h5.1 h6.1 (by omega) (by omega) ((((R1.trans y4).trans z2).trans x4).trans t2) O5 (((((FC2.trans yf).trans zf).trans xf).trans tf))
              rw [mro_ok (z := qz q) t3.2.1 (kdf hq), e', Option.bind_some]
              exact wp_some g'
            · rw [if_pos t1]
              exact wp_some (LV.bad (t2.after (((R1.trans y4).trans z2).trans x4) O4.1) ((((FC2.trans yf).trans zf).trans xf).trans tf))
          · rw [if_pos x1]
            exact wp_some (LV.bad (x2.after ((R1.trans y4).trans z2) O3.1) (((FC2.trans yf).trans zf).trans xf))
        · rw [if_pos z1]
          exact wp_some (LV.bad (z2.after (R1.trans y4) O2.1) ((FC2.trans yf).trans zf))
      · rw [if_pos y1]
        exact wp_some (LV.bad (y2.after R1 O1.1) (FC2.trans yf))
  · rw [opening_0 hq X1 hpm k40, Option.bind_some, if_pos rfl]
    exact wp_some (LV.bad (f1 k40) (FC1.trans (fmC_K.x hq)))
theorem if_S {q : zQ} {rcF : Nat → Int → zM → Option (Int × zM)} {o : Int} (hq : QH q) (Ht : o ≤ 6 → TestS q (rcF 5 0) (o + 1)) (Hs : o ≤ 6 → SumS q (rcF 0 0) (o + 1)) : FunS q (Pa_choice rcF) o 323 := by
  intro mC mM i G T P D hP hA hk
  obtain ⟨h1, h2, h3, h4, h5, h6, h7, h8, h9, h10⟩ := id hP
  have bi := h2.1.i0 hq.1
  have eD : D + 1 - 1 = D := by omega
  obtain ⟨X1, FC1⟩ := cfun_open hq h1
  obtain ⟨lt, ⟨pm, hpm⟩, f1, f2, f3⟩ := fun_open (mC' := upm mC 1 7 (i + 1)) (code := 44) (K := 6) hq hP hA hk (by unfold FKD; omega)
  have mono := hq.1.mono h2.1.1.1 lt
  unfold Pa_choice
  rw [h1.1.2, wI_ok (x := i + 1) (by omega) (by omega), pf_ok]
  by_cases k40 : kdq q (i + 1) = 40
  · by_cases o7 : o = 7
    · rw [opening_7 hq X1 hpm o7 k40, Option.bind_some, if_pos rfl]
      exact wp_some (LV.bad (f2 k40 o7) (FC1.trans (fmC_K.x hq)))
    · have o6 : o ≤ 6 := by omega
      obtain ⟨u, R1, O1, X2, u19, u20, u21, u22, u23⟩ := f3 k40 o6
      have mono2 := hq.1.mono hpm.1.1 (hpm.lt hq.1 (by show kdq q (i + 1) ≠ 256; omega) (by show kdq q (i + 1) ≠ 257; omega))
      rw [show i + 1 + 1 = i + 2 from by omega] at mono2
      rw [opening_1 hq X1 hpm h4.1 (by omega) k40, Option.bind_some, if_neg (show ¬ (1 : Int) = 0 by decide), show i + 1 + 1 = i + 2 from by omega]
      have XC2 : XC q (i + 2) (o + 1) G (upm (upm (upm mC 1 7 (i + 1)) 1 6 (o + 1)) 1 7 (i + 2)) := (X1.u1 hq (o' := o + 1) (Or.inr ⟨rfl, rfl, rfl⟩)).u1 hq (Or.inl ⟨rfl, rfl, rfl⟩)
      have FC2 : FCx q mC (upm (upm (upm mC 1 7 (i + 1)) 1 6 (o + 1)) 1 7 (i + 2)) := (FC1.put1 hq (by decide)).put1 hq (by decide)
      have hw : PRE q 5 (i + 2) (o + 1) G T P (D + 1) (upm (upm (upm mC 1 7 (i + 1)) 1 6 (o + 1)) 1 7 (i + 2)) u := ⟨XC2, X2, h3, ⟨by omega, by omega⟩, ⟨by omega, by omega⟩, ⟨h6.1, by omega⟩, by omega, by omega, by rw [eD, u23]; exact h6.1, by rw [eD, u23]; exact Int.le_refl _⟩
      refine wp_bm (Ht o6 _ _ _ _ _ _ _ hw (Or.inl (by rw [eD, u23])) ⟨by rw [eD, u19]; exact Or.inr (Or.inr rfl), by rw [eD, u20], by rw [eD, u21]; decide⟩) (fun p ⟨y, yf⟩ => ?_)
      rcases y with ⟨y1, i2, G2, Eb2, M2, mM2, y2, y3, y4, y5, y6, y7⟩ | ⟨y1, y2⟩
      · rw [if_neg (by omega)]
        unfold KF Xte at *
        rw [eD] at y5 y6 y7
        have O2 := O1.step y5 (Int.le_refl _) (Int.le_refl _)
        refine wp_bm (comma_J (K := 6) (K' := 3) hq y3 (by omega) (by omega) (by decide) (by omega) (by omega) h6.1 (by omega) (by decide) (by rw [eD, y6.2.2, u23]) (by rw [eD, y6.1, u19]) (Or.inr ⟨rfl, rfl⟩) (by rw [eD]; exact y7.2.1) (fun _ => by rw [eD]; exact ⟨y7.1, y7.2.2⟩)) (fun s ⟨z, zf⟩ => ?_)
        rcases z with ⟨z1, mM3, z2, z3, z4, z5, z6, z7, z8, z9⟩ | ⟨z1, z2⟩
        · rw [if_neg (by omega)]
          rw [eD] at z5 z6 z7
          have lt2 := y3.2.1.1.lt hq.1 (by show kdq q i2 ≠ 256; omega) (by show kdq q i2 ≠ 257; omega)
          have mono3 := hq.1.mono y3.2.1.1.1.1 lt2
          have room := y3.2.2.2.2.2.2.1
          have v23 : mM3 23 D = P := by rw [z8 23 (by omega), y6.2.2, u23]
          have v22 : mM3 22 D = 44 := by rw [z8 22 (by omega), y6.2.1, u22]
          have O3 := O2.step z5 (Int.le_refl _) (by omega)
          have hw2 : PRE q 2 (i2 + 1) (o + 1) G2 (true :: T) P (D + 1) s.2 mM3 := ⟨z3, z4, y3.2.2.2.2.2.1, ⟨by omega, by omega⟩, ⟨by omega, by omega⟩, ⟨h6.1, by omega⟩, by rw [List.length_cons]; omega, by omega, by rw [eD, v23]; exact h6.1, by rw [eD, v23]; exact Int.le_refl _⟩
          refine wp_bm (Hs o6 _ _ _ _ _ _ _ hw2 (Or.inl (by rw [eD, v23])) ⟨by rw [eD, z7]; decide, fun w => by rw [eD, z6] at w; unfold isT at w; omega⟩) (fun p2 ⟨x, xf⟩ => ?_)
          rcases x with ⟨x1, i3, G3, Eb3, M3, mM4, x2, x3, x4, x5, x6, x7⟩ | ⟨x1, x2⟩
          · rw [if_neg (by omega)]
            unfold KF Xar at *
            rw [eD] at x5 x6 x7
            have O4 := O3.step x5 (Int.le_refl _) (Int.le_refl _)
            refine wp_bm (comma_J (K := 3) (K' := 4) hq x3 (by omega) (by omega) (by decide) (by omega) (by omega) h6.1 (by omega) (by decide) (by rw [eD, x6.2.2, v23]) (by rw [eD, x6.1, z6]) (Or.inl ⟨rfl, rfl⟩) (fun _ => x7.2.2) (fun w => by unfold isT at w; omega)) (fun s1 ⟨t, tf⟩ => ?_)
            rcases t with ⟨t1, mM5, t2, t3, t4, t5, t6, t7, t8, t9⟩ | ⟨t1, t2⟩
            · rw [if_neg (by omega)]
              rw [eD] at t5 t6 t7
              have lt3 := x3.2.1.1.lt hq.1 (by show kdq q i3 ≠ 256; omega) (by show kdq q i3 ≠ 257; omega)
              have mono4 := hq.1.mono x3.2.1.1.1.1 lt3
              have room3 := x3.2.2.2.2.2.2.1
              have w23 : mM5 23 D = P := by rw [t8 23 (by omega), x6.2.2, v23]
              have w22 : mM5 22 D = 44 := by rw [t8 22 (by omega), x6.2.1, v22]
              have O5 := O4.step t5 (Int.le_refl _) (by omega)
              have hw3 : PRE q 2 (i3 + 1) (o + 1) G3 (false :: true :: T) P (D + 1) s1.2 mM5 := ⟨t3, t4, x3.2.2.2.2.2.1, ⟨by omega, by omega⟩, ⟨by omega, by omega⟩, ⟨h6.1, by omega⟩, by rw [List.length_cons, List.length_cons]; omega, by omega, by rw [eD, w23]; exact h6.1, by rw [eD, w23]; exact Int.le_refl _⟩
              refine wp_bm (Hs o6 _ _ _ _ _ _ _ hw3 (Or.inl (by rw [eD, w23])) ⟨by rw [eD, t7]; decide, fun w => by rw [eD, t6] at w; unfold isT at w; omega⟩) (fun p3 ⟨a, af⟩ => ?_)
              rcases a with ⟨a1, i4, G4, Eb4, M4, mM6, a2, a3, a4, a5, a6, a7⟩ | ⟨a1, a2⟩
              · rw [if_neg (by omega)]
                unfold KF Xar at *
                rw [eD] at a5 a6 a7
                have O6 := O5.step a5 (Int.le_refl _) (Int.le_refl _)
                refine wp_bm (close_J (K := 4) (ch := 41) (x := 5) hq a3 h4.1 o6 (by decide) h5.1 (by omega) h6.1 (by omega) (by decide) (by rw [a6.2.2, w23]) (by rw [a6.1, t6]) (Or.inr (Or.inl ⟨rfl, rfl⟩)) (fun _ => a7.2.2) (fun w => by unfold isT at w; omega)) (fun s2 ⟨e, ef⟩ => ?_)
                rcases e with ⟨e1, mM7, e2, e3, e4, e5, e6, e7, e8⟩ | ⟨e1, e2⟩
                · rw [if_neg (by omega)]
                  rw [if_pos rfl, a6.2.1, w22] at e4
                  rw [if_neg (by decide)] at e6
                  have lt4 := a3.2.1.1.lt hq.1 (by show kdq q i4 ≠ 256; omega) (by show kdq q i4 ≠ 257; omega)
                  have mono5 := hq.1.mono a3.2.1.1.1.1 lt4
                  have room4 := a3.2.2.2.2.2.2.1
                  have O7 : OU q P D mM mM7 := ⟨O6.1.trans (e5.mono (Int.le_refl _) (by omega)), O6.2.1.trans ⟨e7 19 (by omega), e7 22 (by omega), e7 23 (by omega)⟩, by rw [e6]; exact O6.2.2.1, by rw [e7 21 (by omega)]; exact O6.2.2.2⟩
                  obtain ⟨m', e', g'⟩ := fun_end (i := i) (code := 44) (x := 5) (T2 := false :: false :: true :: T) (T := T) hq e3 e4 a3.2.2.2.2.2.1 rfl (by omega) (by unfold crel; decide) (by decide) (by decide) (by decide) h4.1 h4.2 h5.1 h6.1 (by omega) (by omega) ((((((R1.trans y4).trans z2).trans x4).trans t2).trans a4).trans e2) O7 (((((((FC2.trans yf).trans zf).trans xf).trans tf).trans af).trans ef))
                  rw [mro_ok (z := qz q) e3.2.1 (kdf hq), e', Option.bind_some]
                  exact wp_some g'
                · rw [if_pos e1]
                  exact wp_some (LV.bad (e2.after (((((R1.trans y4).trans z2).trans x4).trans t2).trans a4) O6.1) ((((((FC2.trans yf).trans zf).trans xf).trans tf).trans af).trans ef))
              · rw [if_pos a1]
                exact wp_some (LV.bad (a2.after ((((R1.trans y4).trans z2).trans x4).trans t2) O5.1) (((((FC2.trans yf).trans zf).trans xf).trans tf).trans af))
            · rw [if_pos t1]
              exact wp_some (LV.bad (t2.after (((R1.trans y4).trans z2).trans x4) O4.1) ((((FC2.trans yf).trans zf).trans xf).trans tf))
          · rw [if_pos x1]
            exact wp_some (LV.bad (x2.after ((R1.trans y4).trans z2) O3.1) (((FC2.trans yf).trans zf).trans xf))
        · rw [if_pos z1]
          exact wp_some (LV.bad (z2.after (R1.trans y4) O2.1) ((FC2.trans yf).trans zf))
      · rw [if_pos y1]
        exact wp_some (LV.bad (y2.after R1 O1.1) (FC2.trans yf))
  · rw [opening_0 hq X1 hpm k40, Option.bind_some, if_pos rfl]
    exact wp_some (LV.bad (f1 k40) (FC1.trans (fmC_K.x hq)))
