/-! sums and tests: a part; all levels together -/
theorem part_end {q : zQ} {i o P D s x : Int} {G : List zC} {T : List Bool} {mC mC2 mM : zM} (hq : QH q) (hP : PRE q 0 i o G T P D mC mM) (lt : i < xl (qc q)) (e : M_operand mM = M_operand_b486 s (upm mM 21 (D - 1) 0)) (hx : XC q i o (G ++ [(x, s, mM 0 6)]) mC2) (hf : FCx q mC mC2) (hty : tst s T = some (false :: T)) (hc : crel x s (mM 0 6)) (hs : s ≤ qx q ∨ 30 ≤ s) : LV q false 7 0 (Xar D mM tT) i o T P D mC mM (1, upm mC2 1 7 (i + 1)) := by
  obtain ⟨h1, h2, h3, h4, h5, h6, h7, h8, h9, h10⟩ := hP
  have hN := h2.1.N hq.1
  have low := hq.1.low h2.1.1.1 lt
  have mono := hq.1.mono h2.1.1.1 lt
  have h21 : XQ q 0 i o G P D (upm mM 21 (D - 1) 0) := h2.F (by decide)
  obtain ⟨r, er, r1, r2, r3⟩ := op_486 (s := s) (x := x) hq.1 hq.2.1 hq.2.2.1 h21 lt (by omega)
  rw [ru1 (by decide)] at r2
  have eO : M_operand mM = some (1, r.2) := by rw [e, er, ← r1]
  have O1 := ((OU.start (q := q) (P := P) (D := D) (mM := mM)).step r3 (by omega) (by omega)).o43 (x := 1)
  refine ⟨Or.inl ⟨rfl, i + 1, _, [], G ++ [(x, s, mM 0 6)], upm r.2 0 43 1, by omega, GD_0 (hx.u1 hq (Or.inl ⟨rfl, rfl, rfl⟩)) r2.o43 (h3.push hty (by rw [List.length_cons]; omega) hc hs) ?_ (by omega), step_O h2.2.1.2.2.2.2.2 eO r2.1.2.2.2.1 (by rw [hN.2.1, r2.1.at]; omega), O1.1, O1.2.1, ⟨O1.2.2.1, O1.2.2.2, trivial⟩⟩, hf.put1 hq (by decide)⟩
  rw [List.length_append, List.length_singleton]
  omega
theorem sc_b87 {q : zQ} {i o P D w : Int} {G : List zC} {T : List Bool} {mC mM : zM} (hq : QH q) (hP : PRE q 0 i o G T P D mC mM) (lt : i < xl (qc q)) (e : M_operand mM = M_operand_b486 (w + 1) (upm mM 21 (D - 1) 0)) (w0 : 0 ≤ w) (w1 : w ≤ 8) (hs : w + 1 ≤ qx q) : wp (Pa_scenePart_b87 w mC) (LV q false 7 0 (Xar D mM tT) i o T P D mC mM) := by
  obtain ⟨h1, h2, h3, h4, h5, h6, h7, h8, h9, h10⟩ := id hP
  have low := hq.1.low h2.1.1.1 lt
  have lo := hq.2.2.1
  have bi := h2.1.i0 hq.1
  obtain ⟨mC2, c1, c2, c3⟩ := h1.add (s := w + 1) (v := mM 0 6) (x := w) (op := 2) hq w0 (by omega) (by decide) (by decide) (by omega)
  unfold Pa_scenePart_b87
  rw [if_neg (by omega), mro_ok (z := qz q) h1.2.1 (kdf hq), c1, Option.bind_some, c2.1.2, wI_ok (x := i + 1) (by omega) (by omega), pf_ok]
  refine wp_some (part_end hq hP lt e c2 c3 ?_ ?_ (Or.inl hs))
  · unfold tst
    rw [if_pos (by omega)]
  · unfold crel
    refine Or.inr (Or.inl ⟨by omega, by omega, by omega, by omega⟩)
theorem sc_no {q : zQ} {i o P D : Int} {G : List zC} {T : List Bool} {mC mM : zM} (hq : QH q) (hP : PRE q 0 i o G T P D mC mM) (e : ∃ m1, M_operand mM = some (1, fmM m1 1 (plc (qc q) 1 i)) ∧ FX (qb q) (ql q) 0 0 mM m1) : wp (Pa_scenePart_b87 (-1) mC) (LV q false 7 0 (Xar D mM tT) i o T P D mC mM) := by
  obtain ⟨h1, h2, _⟩ := id hP
  obtain ⟨m1, e1, e2⟩ := e
  unfold Pa_scenePart_b87
  rw [if_pos rfl, fail_ok hq.1 h1.1 h2.1, Option.bind_some]
  exact wp_some (LV.bad (bad_O hq (by decide) h2 e1 e2) (fmC_K.x hq))
theorem scene_S {q : zQ} {i o P D : Int} {G : List zC} {T : List Bool} {mC mM : zM} (hq : QH q) (hP : PRE q 0 i o G T P D mC mM) (hA : ArPre q i D mM) (k1 : kdq q i ≠ 40) (k2 : kdq q i ≠ 259) (k3 : kdq q i ≠ 323) (k4 : kdq q i ≠ 328) (k5 : kdq q i ≠ 329) : wp (Pa_scenePart mC) (LV q false 7 0 (Xar D mM tT) i o T P D mC mM) := by
  obtain ⟨h1, h2, h3, h4, h5, h6, h7, h8, h9, h10⟩ := id hP
  have hN := h2.1.N hq.1
  have fx0 : FX (qb q) (ql q) 0 0 mM (upm mM 21 (D - 1) 0) := FX.refl.putF (by decide) (by decide) (by omega)
  have h21 : XQ q 0 i o G P D (upm mM 21 (D - 1) 0) := h2.F (by decide)
  have e8 : upm mM 21 (D - 1) 0 0 8 = 0 := h21.1.2.2.2.1
  have e4 : upm mM 21 (D - 1) 0 0 4 = xm (qc q) 5 i := h21.1.at
  have e33 : upm mM 21 (D - 1) 0 0 33 = qm q := h21.2.1.2.1
  have hm := hq.2.2.2.1
  unfold Pa_scenePart
  rw [kind_ok hq.1 h1.1 h2.1, Option.bind_some]
  by_cases c7 : kdq q i = 257
  · have no := sc_no hq hP ⟨mM, op_bad h2.1 c7, FX.refl⟩
    have e70 : Pa_scenePart_b70 (xm (qc q) 4 i) (-1) mC = Pa_scenePart_b87 (-1) mC := by
      unfold Pa_scenePart_b70
      rw [if_neg (show ¬ kdq q i = 322 by omega)]
      split <;> rfl
    have e50 : Pa_scenePart_b50 (xm (qc q) 4 i) (-1) mC = Pa_scenePart_b87 (-1) mC := by
      unfold Pa_scenePart_b50
      rw [if_neg (show ¬ kdq q i = 307 by omega), e70]
      split <;> rfl
    have e30 : Pa_scenePart_b30 (xm (qc q) 4 i) (-1) mC = Pa_scenePart_b87 (-1) mC := by
      unfold Pa_scenePart_b30
      rw [if_neg (show ¬ kdq q i = 321 by omega), e50]
      split <;> rfl
    rw [if_pos (show kdq q i < 315 by omega), e30]
    exact no
  · have eO := op_171 h2 c7 h5.1 (by omega) hA.2
    by_cases c1 : kdq q i < 315 ∨ 320 < kdq q i
    · have no : upm mM 21 (D - 1) 0 0 33 = 0 ∨ (kdq q i ≠ 321 ∧ kdq q i ≠ 307 ∧ kdq q i ≠ 322) → wp (Pa_scenePart_b87 (-1) mC) (LV q false 7 0 (Xar D mM tT) i o T P D mC mM) := by
        intro hno
        refine sc_no hq hP ⟨upm mM 21 (D - 1) 0, ?_, fx0⟩
        rw [eO, plc_1 c7, ← e4]
        by_cases a1 : kdq q i = 321
        · rw [b171_liking h21.1 a1]
          exact op_4no e8 (Or.inr ⟨by decide, by omega⟩)
        · by_cases a2 : kdq q i = 307
          · rw [b171_fears h21.1 a2]
            exact op_4no e8 (Or.inr ⟨by decide, by omega⟩)
          · by_cases a3 : kdq q i = 322
            · rw [b171_free h21.1 a3]
              exact op_4no e8 (Or.inr ⟨by decide, by omega⟩)
            · rw [b171_no h21.1 c7 k1 k4 k5 k3 k2 (by show kdq q i < 315 ∨ 322 < kdq q i; omega) a2]
              exact op_4no e8 (Or.inl rfl)
      have main : wp (Pa_scenePart_b30 (xm (qc q) 4 i) (-1) mC) (LV q false 7 0 (Xar D mM tT) i o T P D mC mM) := by
        unfold Pa_scenePart_b30
        by_cases m0 : qm q = 0
        · rw [h1.2.2.1, if_pos m0]
          unfold Pa_scenePart_b50
          rw [h1.2.2.1, if_pos m0]
          unfold Pa_scenePart_b70
          rw [h1.2.2.1, if_pos m0]
          exact no (Or.inl (by rw [e33]; exact m0))
        · have m1 : qm q = 1 := by omega
          have qx9 : qx q = 9 := by
            unfold qx
            rw [if_neg m0]
          rw [h1.2.2.1, if_neg m0]
          by_cases a1 : kdq q i = 321
          · have lt := h2.1.lt hq.1 (by show kdq q i ≠ 256; omega) c7
            rw [if_pos a1]
            exact sc_b87 hq hP lt (by rw [eO, b171_liking h21.1 a1, op_456 (by decide) (Or.inr (by omega))]; rfl) (by decide) (by decide) (by omega)
          · rw [if_neg a1]
            unfold Pa_scenePart_b50
            rw [h1.2.2.1, if_neg m0]
            by_cases a2 : kdq q i = 307
            · have lt := h2.1.lt hq.1 (by show kdq q i ≠ 256; omega) c7
              rw [if_pos a2]
              exact sc_b87 hq hP lt (by rw [eO, b171_fears h21.1 a2, op_456 (by decide) (Or.inr (by omega))]; rfl) (by decide) (by decide) (by omega)
            · rw [if_neg a2]
              unfold Pa_scenePart_b70
              rw [h1.2.2.1, if_neg m0]
              by_cases a3 : kdq q i = 322
              · have lt := h2.1.lt hq.1 (by show kdq q i ≠ 256; omega) c7
                rw [if_pos a3]
                exact sc_b87 hq hP lt (by rw [eO, b171_free h21.1 a3, op_456 (by decide) (Or.inr (by omega))]; rfl) (by decide) (by decide) (by omega)
              · rw [if_neg a3]
                exact no (Or.inr ⟨a1, a2, a3⟩)
      by_cases c2 : kdq q i < 315
      · rw [if_pos c2]
        exact main
      · rw [if_neg c2, if_pos (show 320 < kdq q i by omega)]
        exact main
    · have lt := h2.1.lt hq.1 (by show kdq q i ≠ 256; omega) c7
      have qx6 : 6 ≤ qx q := by
        unfold qx
        split <;> omega
      rw [if_neg (show ¬ kdq q i < 315 by omega), if_neg (show ¬ 320 < kdq q i by omega), wI_ok (x := xm (qc q) 4 i - 315) (by show -2147483648 ≤ kdq q i - 315; omega) (by show kdq q i - 315 < 2147483648; omega), lt_ok]
      have sc : ∀ w : Int, kdq q i = 315 + w → M_operand_b171 (upm mM 21 (D - 1) 0) = M_operand_b486 (w + 1) (upm mM 21 (D - 1) 0) → 0 ≤ w → w ≤ 5 → wp (Pa_scenePart_b87 (xm (qc q) 4 i - 315) mC) (LV q false 7 0 (Xar D mM tT) i o T P D mC mM) := by
        intro w hw e w0 w1
        rw [show xm (qc q) 4 i - 315 = w from by show kdq q i - 315 = w; omega]
        exact sc_b87 hq hP lt (by rw [eO, e]) w0 (by omega) (by omega)
      rcases (by omega : kdq q i = 315 ∨ kdq q i = 316 ∨ kdq q i = 317 ∨ kdq q i = 318 ∨ kdq q i = 319 ∨ kdq q i = 320) with a | a | a | a | a | a
      · exact sc 0 a (b171_suits h21.1 a) (by decide) (by decide)
      · exact sc 1 a (b171_saw h21.1 a) (by decide) (by decide)
      · exact sc 2 a (b171_hour h21.1 a) (by decide) (by decide)
      · exact sc 3 a (b171_looks h21.1 a) (by decide) (by decide)
      · exact sc 4 a (b171_smell h21.1 a) (by decide) (by decide)
      · exact sc 5 a (b171_talk h21.1 a) (by decide) (by decide)
theorem part_S {q : zQ} {rcF : Nat → Int → zM → Option (Int × zM)} {o : Int} (hq : QH q) (Hs : o ≤ 6 → SumS q (rcF 0 0) (o + 1)) (Hif : FunS q (rcF 4 0) o 323) (Hmin : FunS q (rcF 3 3) o 328) (Hmax : FunS q (rcF 3 4) o 329) : PartS q (Pa_part rcF) o := by
  intro mC mM i G T P D hP hA
  obtain ⟨h1, h2, h3, h4, h5, h6, h7, h8, h9, h10⟩ := id hP
  have bi := h2.1.i0 hq.1
  have hN := h2.1.N hq.1
  have lo := hq.2.2.1
  have eD : D + 1 - 1 = D := by omega
  have h21 : XQ q 0 i o G P D (upm mM 21 (D - 1) 0) := h2.F (by decide)
  unfold Pa_part
  rw [kind_ok hq.1 h1.1 h2.1, Option.bind_some]
  by_cases k40 : kdq q i = 40
  · have lt := h2.1.lt hq.1 (by show kdq q i ≠ 256; omega) (by show kdq q i ≠ 257; omega)
    have mono := hq.1.mono h2.1.1.1 lt
    have eO := op_171 h2 (by show kdq q i ≠ 257; omega) h5.1 (by omega) hA.2
    rw [b171_par h21.1 k40] at eO
    rw [if_pos k40]
    by_cases o7 : o < 7
    · rw [opening_1 hq h1 h2.1 h4.1 o7 k40, Option.bind_some, if_neg (show ¬ (1 : Int) = 0 by decide)]
      obtain ⟨r, er, g⟩ := opens_ok (K := 2) hq.1 h21 lt h4.1 o7 h5.1 (by omega) h6.1 (by omega)
      rw [er, Option.bind_some] at eO
      have XC1 : XC q (i + 1) (o + 1) G (upm (upm mC 1 6 (o + 1)) 1 7 (i + 1)) := (h1.u1 hq (o' := o + 1) (Or.inr ⟨rfl, rfl, rfl⟩)).u1 hq (Or.inl ⟨rfl, rfl, rfl⟩)
      have FC1 : FCx q mC (upm (upm mC 1 6 (o + 1)) 1 7 (i + 1)) := (FCx.refl.put1 hq (by decide)).put1 hq (by decide)
      have R1 : RC mM (upm r 0 43 0) := step_O h2.2.1.2.2.2.2.2 eO g.1.1.2.2.2.1 (by rw [hN.2.1, g.1.1.at]; omega)
      have hw := pre_open (need := 2) (T := T) hq XC1 h3 ⟨h4.1, by omega⟩ h5 ⟨h6.1, by omega⟩ (by omega) (by omega) (by decide) g rfl
      have O1 := (((OU.start (q := q) (P := P) (D := D) (mM := mM)).step g.2.2.2.2.2 (Int.le_refl _) (by omega)).o43 (x := 0))
      refine wp_bm (Hs (by omega) _ _ _ _ _ _ _ hw (Or.inl (by rw [eD, ru1 (by decide)]; exact g.2.2.2.2.1.symm)) ⟨by rw [eD, ru1 (by decide), g.2.2.1]; decide, fun w => by rw [eD, ru1 (by decide), g.2.1] at w; unfold isT at w; omega⟩) (fun p ⟨y, yf⟩ => ?_)
      rcases y with ⟨y1, i2, G2, Eb2, M2, mM2, y2, y3, y4, y5, y6, y7⟩ | ⟨y1, y2⟩
      · rw [if_neg (by omega)]
        have k19 : mM2 19 D = 2 := by have := y6.1; rw [eD, ru1 (by decide), g.2.1] at this; exact this
        have k23 : mM2 23 D = P := by have := y6.2.2; rw [eD, ru1 (by decide), g.2.2.2.2.1] at this; exact this
        rw [eD] at y5
        have O2 := O1.step y5 (Int.le_refl _) (Int.le_refl _)
        refine wp_bm (close_J (K := 2) (ch := 41) (x := 0) hq y3 h4.1 (by omega) (by decide) h5.1 (by omega) h6.1 (by omega) (by decide) k23 k19 (Or.inl ⟨rfl, rfl⟩) (fun _ => y7.2.2) (fun w => by unfold isT at w; omega)) (fun s ⟨z, zf⟩ => ?_)
        rcases z with ⟨z1, mM3, z2, z3, z4, z5, z6, z7, z8⟩ | ⟨z1, z2⟩
        · rw [if_neg (by omega)]
          rw [if_neg (show ¬ (2 : Int) = 4 by decide), List.append_nil] at z4
          rw [if_neg (show ¬ (2 : Int) = 5 by decide)] at z6
          have lt2 := y3.2.1.1.lt hq.1 (by show kdq q i2 ≠ 256; omega) (by show kdq q i2 ≠ 257; omega)
          have mono2 := hq.1.mono y3.2.1.1.1.1 lt2
          have room := y3.2.2.2.2.2.2.1
          exact wp_some ⟨Or.inl ⟨rfl, i2 + 1, G2, [], G2, mM3, by omega, GD_0 z3 z4 y3.2.2.2.2.2.1 (by omega) (by omega), (R1.trans y4).trans z2, O2.1.trans (z5.mono (Int.le_refl _) (by omega)), O2.2.1.trans ⟨z7 19 (by omega), z7 22 (by omega), z7 23 (by omega)⟩, ⟨by rw [z6]; exact O2.2.2.1, by rw [z7 21 (by omega)]; exact O2.2.2.2, trivial⟩⟩, (FC1.trans yf).trans zf⟩
        · rw [if_pos z1]
          exact wp_some (LV.bad (z2.after (R1.trans y4) O2.1) ((FC1.trans yf).trans zf))
      · rw [if_pos y1]
        exact wp_some (LV.bad (y2.after R1 O1.1) (FC1.trans yf))
    · rw [opening_7 hq h1 h2.1 (by omega) k40, Option.bind_some, if_pos rfl]
      rw [opens_7 h21.1.2.2.2.1 (by rw [h21.2.1.2.2.2.1]; omega), Option.bind_some, h21.1.at] at eO
      exact wp_some (LV.bad (bad_O hq (by decide) h2 eO (FX.refl.putF (by decide) (by decide) (by omega))) (fmC_K.x hq))
  · rw [if_neg k40]
    by_cases k259 : kdq q i = 259
    · have lt := h2.1.lt hq.1 (by show kdq q i ≠ 256; omega) (by show kdq q i ≠ 257; omega)
      have low := hq.1.low h2.1.1.1 lt
      have eO := op_171 h2 (by show kdq q i ≠ 257; omega) h5.1 (by omega) hA.2
      rw [b171_num h21.1 k259] at eO
      obtain ⟨_, v1, v2, v3⟩ := (sign_2 h2.1).1 k259
      obtain ⟨mC2, c1, c2, c3⟩ := h1.add (s := 0) (v := mM 0 6) (x := mM 0 6) (op := 1) hq v2 v3 (by decide) (by decide) (by omega)
      rw [if_pos k259, mro_ok (z := qz q) h1.2.1 (kdf hq), h1.1.2, rd_ok bi.1 bi.2.1, h1.1.1.2.2.2.1, ← v1, c1, Option.bind_some, c2.1.2, wI_ok (x := i + 1) (by omega) (by omega), pf_ok]
      refine wp_some (part_end hq hP lt eO c2 c3 rfl ?_ (Or.inl (by unfold qx; split <;> decide)))
      unfold crel
      exact Or.inl ⟨by omega, by omega, Or.inl ⟨rfl, by omega, by omega⟩⟩
    · rw [if_neg k259]
      by_cases k323 : kdq q i = 323
      · rw [if_pos k323]
        exact wp_bm (Hif _ _ _ _ _ _ _ hP hA k323) (fun p y => wp_some y)
      · rw [if_neg k323]
        by_cases k328 : kdq q i = 328
        · rw [if_pos k328]
          exact wp_bm (Hmin _ _ _ _ _ _ _ hP hA k328) (fun p y => wp_some y)
        · rw [if_neg k328]
          by_cases k329 : kdq q i = 329
          · rw [if_pos k329]
            exact wp_bm (Hmax _ _ _ _ _ _ _ hP hA k329) (fun p y => wp_some y)
          · rw [if_neg k329]
            exact wp_bm (scene_S hq hP hA k40 k259 k323 k328 k329) (fun p y => wp_some y)
/-- all levels, by the depth that is left -/
def ALL (q : zQ) (d : Nat) : Prop := ∀ o : Int, 0 ≤ o → o ≤ 7 → (4 + 8 * (7 - o) ≤ (d : Int) → SumS q (Pa_rec d 0 0) o) ∧ (3 + 8 * (7 - o) ≤ (d : Int) → ProdS q (Pa_rec d 1 0) o) ∧ (2 + 8 * (7 - o) ≤ (d : Int) → PartS q (Pa_rec d 2 0) o) ∧ (1 + 8 * (7 - o) ≤ (d : Int) → FunS q (Pa_rec d 3 3) o 328 ∧ FunS q (Pa_rec d 3 4) o 329 ∧ FunS q (Pa_rec d 4 0) o 323) ∧ (8 + 8 * (7 - o) ≤ (d : Int) → TestS q (Pa_rec d 5 0) o) ∧ (7 + 8 * (7 - o) ≤ (d : Int) → BothS q (Pa_rec d 6 0) o) ∧ (6 + 8 * (7 - o) ≤ (d : Int) → FactS q (Pa_rec d 7 0) o) ∧ (5 + 8 * (7 - o) ≤ (d : Int) → CompS q (Pa_rec d 8 0) o)
theorem all_ok {q : zQ} (hq : QH q) : ∀ d : Nat, ALL q d := by
  intro d
  induction d with
  | zero =>
    intro o o0 o1
    exact ⟨fun h => by omega, fun h => by omega, fun h => by omega, fun h => by omega, fun h => by omega, fun h => by omega, fun h => by omega, fun h => by omega⟩
  | succ d ih =>
    intro o o0 o1
    have H0 := ih o o0 o1
    have H1 : o ≤ 6 → _ := fun h6 : o ≤ 6 => ih (o + 1) (by omega) (by omega)
    refine ⟨fun h => ?_, fun h => ?_, fun h => ?_, fun h => ⟨?_, ?_, ?_⟩, fun h => ?_, fun h => ?_, fun h => ?_, fun h => ?_⟩
    · exact sum_S hq (H0.2.1 (by omega))
    · exact prod_S hq (H0.2.2.1 (by omega))
    · have f := H0.2.2.2.1 (by omega)
      exact part_S hq (fun h6 => (H1 h6).1 (by omega)) f.2.2 f.1 f.2.1
    · exact min_S hq (fun h6 => (H1 h6).1 (by omega))
    · exact max_S hq (fun h6 => (H1 h6).1 (by omega))
    · exact if_S hq (fun h6 => (H1 h6).2.2.2.2.1 (by omega)) (fun h6 => (H1 h6).1 (by omega))
    · exact test_S hq (H0.2.2.2.2.2.1 (by omega))
    · exact both_S hq (H0.2.2.2.2.2.2.1 (by omega))
    · exact fact_S hq (fun h6 => (H1 h6).2.2.2.2.1 (by omega)) (fun h6 => (H1 h6).2.2.2.2.2.2.1 (by omega)) (H0.2.2.2.2.2.2.2 (by omega))
    · exact comp_S hq (H0.1 (by omega))
