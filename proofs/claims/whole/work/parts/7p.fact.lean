/-! sums and tests: comparisons, facts -/
theorem LV.mono {q : zQ} {t : Bool} {rk rk' need need' : Int} {X X' : Int → zM → Prop} {i o P D : Int} {T : List Bool} {mC mM : zM} {a : Int × zM} (h : LV q t rk need X i o T P D mC mM a) (hr : rk' ≤ rk) (hn : need ≤ need') (hX : ∀ i m, X i m → X' i m) : LV q t rk' need' X' i o T P D mC mM a := by
  obtain ⟨h1, h2⟩ := h
  refine ⟨?_, h2⟩
  rcases h1 with ⟨y1, i2, G2, Eb2, M2, mM2, y2, y3, y4, y5, y6, y7⟩ | y
  · exact Or.inl ⟨y1, i2, G2, Eb2, M2, mM2, y2, y3.mono hr hn, y4, y5, y6, hX _ _ y7⟩
  · exact Or.inr y
theorem LX.low {c : zX} (hL : LX c) {i : Int} (i0 : 0 ≤ i) (i1 : i < xl c) : xm c 5 i < 1600 := by
  have a := hL.mono i0 i1
  have b := (hL.1.2.2.2.1 (i + 1) (by omega) (by omega)).2.2.1
  have e := hL.2.2
  omega
theorem op_brk {c : zX} {b lo may opd i O P D : Int} {M : List zC} {m : zM} (h : XM c b lo may opd i O M P D m) (D0 : 1 ≤ D) (D1 : D ≤ 8) (ht : isT (m 19 (D - 1))) (hb : m 21 (D - 1) ≠ 0) (hk : xm c 4 i = 91) : M_operand m = (M_opens 5 (upm m 21 (D - 1) 0)).bind (fun r7 => some (0, r7)) := by
  have h7 : xm c 4 i ≠ 257 := by omega
  have q : XM c b lo may opd i O M P D (upm m 21 (D - 1) 0) := h.F (by decide)
  unfold M_operand
  rw [lex_ok h.1 h7, Option.bind_some, if_neg (show ¬ 0 < m 0 8 by rw [h.1.2.2.2.1]; decide), h.2.1.2.2.1, wI_ok (x := D - 1) (by omega) (by omega), lt_ok, rd_ok (by omega) (by omega), isT_1 ht, Option.bind_some, if_neg (by decide), rd_ok (by omega) (by omega), if_neg hb]
  unfold M_operand_b46
  rw [if_neg (by decide), iw_not h.1 h7, Option.bind_some, if_neg (show ¬ xm c 4 i = 326 by omega), if_pos rfl]
  unfold M_operand_b110
  rw [wr_ok (by omega) (by omega), if_neg (by decide), isSign_ok q.1 h7 (by decide), Option.bind_some, if_pos hk, if_neg (by decide)]
theorem op_not {c : zX} {b lo may opd i O P D : Int} {M : List zC} {m : zM} (h : XM c b lo may opd i O M P D m) (D0 : 1 ≤ D) (D1 : D ≤ 8) (ht : isT (m 19 (D - 1))) (hb : m 21 (D - 1) ≠ 0) (hk : xm c 4 i = 326) : M_operand m = if m 0 40 = 7 then some (1, fmM m 5 (m 0 4)) else M_operand_b79 m := by
  have h7 : xm c 4 i ≠ 257 := by omega
  unfold M_operand
  rw [lex_ok h.1 h7, Option.bind_some, if_neg (show ¬ 0 < m 0 8 by rw [h.1.2.2.2.1]; decide), h.2.1.2.2.1, wI_ok (x := D - 1) (by omega) (by omega), lt_ok, rd_ok (by omega) (by omega), isT_1 ht, Option.bind_some, if_neg (by decide), rd_ok (by omega) (by omega), if_neg hb]
  unfold M_operand_b46
  rw [if_neg (by decide), iw_not h.1 h7, Option.bind_some, if_pos hk, if_neg (by decide)]
  by_cases c7 : m 0 40 = 7
  · rw [if_pos c7, if_pos c7, blame_0 h.1.2.2.2.1, Option.bind_some]
    unfold M_operand_b79
    rw [if_pos (by rw [fmM_8]; decide)]
  · rw [if_neg c7, if_neg c7]
theorem op_all {c : zX} {b lo may opd i O P D : Int} {M : List zC} {m : zM} (h : XM c b lo may opd i O M P D m) (D0 : 1 ≤ D) (D1 : D ≤ 8) (ht : isT (m 19 (D - 1))) (hb : m 21 (D - 1) ≠ 0) (hk : xm c 4 i = 327) : M_operand m = (M_add 30 0 (upm m 21 (D - 1) 0)).bind (fun r6 => wr 20 20 (D - 1) 2 r6 (fun m9 => (M_ahead m9).bind (fun r10 => some (1, r10)))) := by
  have h7 : xm c 4 i ≠ 257 := by omega
  have q : XM c b lo may opd i O M P D (upm m 21 (D - 1) 0) := h.F (by decide)
  unfold M_operand
  rw [lex_ok h.1 h7, Option.bind_some, if_neg (show ¬ 0 < m 0 8 by rw [h.1.2.2.2.1]; decide), h.2.1.2.2.1, wI_ok (x := D - 1) (by omega) (by omega), lt_ok, rd_ok (by omega) (by omega), isT_1 ht, Option.bind_some, if_neg (by decide), rd_ok (by omega) (by omega), if_neg hb]
  unfold M_operand_b46
  rw [if_neg (by decide), iw_not h.1 h7, Option.bind_some, if_neg (show ¬ xm c 4 i = 326 by omega), if_pos rfl]
  unfold M_operand_b110
  rw [wr_ok (by omega) (by omega), if_neg (by decide), isSign_ok q.1 h7 (by decide), Option.bind_some, if_neg (show ¬ xm c 4 i = 91 by omega), if_pos rfl]
  unfold M_operand_b137
  rw [if_neg (by decide), iw_all q.1 h7, Option.bind_some, if_pos hk, if_neg (by decide)]
/-- NOT behind its fact -/
theorem push_not {q : zQ} {o P D i : Int} {T : List Bool} {G M : List zC} {Eb : List Int} {mC mM : zM} (hq : QH q) (h : GD q true 3 3 (o + 1) T (P + 1) D i G Eb M mC mM) (h24 : mM 24 P = 43) (P0 : 0 ≤ P) (D0 : 1 ≤ D) (hT : (T.length : Int) ≤ 40) : ∃ mC', Fo_add (qz q) 6 0 (upm mC 1 6 o) = some mC' ∧ GD q true 3 3 o T P D i (G ++ [opE 43]) (43 :: Eb) M mC' mM ∧ FCx q mC mC' := by
  obtain ⟨h1, h2, h3, h4, h5, h6, h7, h8⟩ := h
  have hN := h2.1.N hq.1
  have lo := hq.2.2.1
  have h1' : XC q i o G (upm mC 1 6 o) := h1.u1 hq (Or.inr ⟨rfl, rfl, rfl⟩)
  obtain ⟨mC', a1, a2, a3⟩ := h1'.add (s := 43) (v := 0) (x := 0) (op := 6) hq (by decide) (by decide) (by decide) (by decide) (by omega)
  have enots : nots (43 :: Eb) = 1 + nots Eb := rfl
  have elen : ((43 :: Eb).length : Int) = (Eb.length : Int) + 1 := by rw [List.length_cons]; omega
  have eE : ((0 : Int) * 256 + 6, (43 : Int), (0 : Int)) = opE 43 := rfl
  rw [eE] at a2
  refine ⟨mC', a1, ⟨a2, ?_, ?_, fun k hk => ?_, fun x hx => ?_, ?_, ?_, by omega⟩, (FCx.refl.put1 hq (by decide)).trans a3⟩
  · unfold XMe at h2 ⊢
    rw [enots, elen, show P + ((Eb.length : Int) + 1) = P + 1 + (Eb.length : Int) from by omega, show o + (1 + nots Eb) = o + 1 + nots Eb from by omega]
    exact h2
  · rw [h3, List.reverse_cons, List.map_append, List.map_singleton, List.append_assoc]
  · cases k with
    | zero =>
      rw [show P + ((0 : Nat) : Int) = P from by omega]
      exact h24
    | succ k =>
      rw [show P + ((k + 1 : Nat) : Int) = P + 1 + (k : Int) from by omega]
      exact h4 k (by simpa using hk)
  · rcases List.mem_cons.mp hx with e | e
    · rw [e]; decide
    · exact h5 x e
  · exact h6.push rfl (by rw [List.length_cons]; omega) (by show crel 6 43 0; unfold crel; decide) (Or.inr (by decide))
  · rw [List.length_append, List.length_singleton]
    omega
theorem comp_S {q : zQ} {rcF : Nat → Int → zM → Option (Int × zM)} {o : Int} (hq : QH q) (H : SumS q (rcF 0 0) o) : CompS q (Pa_comparison rcF) o := by
  intro mC mM i G T P D hP hB hA hk
  obtain ⟨h1, h2, h3, h4, h5, h6, h7, h8, h9, h10⟩ := id hP
  unfold Pa_comparison
  refine wp_bm (H _ _ _ _ _ _ _ (hP.mono (by decide)) (hB.mono (by decide)) ⟨by rw [hA.2.1]; decide, fun _ => Or.inr hk⟩) (fun p ⟨y, yf⟩ => ?_)
  rcases y with ⟨y1, i2, G2, Eb2, M2, mM2, y2, y3, y4, y5, y6, y7⟩ | ⟨y1, y2⟩
  · have hx := y3.2.1
    have hl := y3.len
    have bi := hx.1.i0 hq.1
    have i0 := h2.1.1.1
    have hN := hx.1.N hq.1
    have hroom := y3.2.2.2.2.2.2.1
    have hEb := y3.2.2.2.2.2.2.2
    have hd := y3.HD (least := 5) (Int.le_refl _) (by rw [y6.2.2]; exact h9) (by rw [y6.2.2]; exact h10) ((hB.mono (by decide)).keep y5 y6)
    rw [if_neg (by omega), kind_ok hq.1 y3.1.1 hx.1, Option.bind_some]
    by_cases ck0 : kdq q i2 = 60
    · obtain ⟨r, er, g, gf, g20, gk⟩ := go_c60 hq.1 hq.2.1 hq.2.2.1 h4.1 h4.2 h5.1 (by omega) h6.1 (by omega) hx hd (by omega) (by omega) ck0 (by rw [y6.1]; exact hA.1) (by rw [y7.1]; exact hA.2.1)
      have lt := hx.1.lt hq.1 (by show kdq q i2 ≠ 256; omega) (by show kdq q i2 ≠ 257; omega)
      obtain ⟨w1, w2⟩ := pre_op (need2 := 2) hq y3 er g h4.1 h4.2 h5.1 h5.2 h6.1 (by omega) (by omega) (by rw [y6.2.2]; exact h9) (by rw [y6.2.2]; exact h10) lt (by rw [gk 23 (by omega)])
      rw [if_pos ck0]
      unfold Pa_comparison_b38
      rw [y3.1.1.2, wI_ok (x := i2 + 1) (by omega) (by omega), pf_ok]
      have bc : BC 5 (P + 1) D r.2 := Or.inr (by rw [show P + 1 - 1 = P from by omega, g.2.2]; decide)
      refine wp_bm (H _ _ _ _ _ _ _ w1 bc ⟨by rw [g20]; decide, fun _ => Or.inl (by rw [gk 21 (by omega)]; exact y7.2.1)⟩) (fun a ⟨z, zf⟩ => ?_)
      have F1 : FCx q mC (upm p.2 1 7 (i2 + 1)) := yf.put1 hq (by decide)
      have fX : FX (qb q) (ql q) (D - 1) P mM r.2 := y5.trans gf
      have kk : KF D mM2 r.2 := ⟨by rw [gk 19 (by omega)], by rw [gk 22 (by omega)], by rw [gk 23 (by omega)]⟩
      rcases z with ⟨z1, i3, G3, Eb3, M3, mM3, z2, z3, z4, z5, z6, z7⟩ | ⟨z1, z2⟩
      · obtain ⟨mC2, c1, c2, c3⟩ := push_op (tr := true) (rk' := 4) (need' := 3) (op := 38) hq z3 (by rw [z5.2.2.2.2.2 P (by omega)]; exact g.2.2) (by decide) rfl (by decide) (by decide) (by decide) h6.1 h5.1 (by omega)
        rw [if_neg (by omega), mro_ok (z := qz q) z3.1.2.1 (kdf hq), show xm (qc q) 4 i2 = opc 38 from ck0.trans (show (60 : Int) = opc 38 from rfl), c1, Option.bind_some]
        exact wp_some ⟨Or.inl ⟨rfl, i3, _, _, _, mM3, by omega, c2, (y4.trans w2).trans z4, fX.trans (z5.mono (Int.le_refl _) (by omega)), (y6.trans kk).trans z6, ⟨by rw [z7.1, g20]; decide, fun _ => z7.2.2, trivial⟩⟩, (F1.trans zf).trans c3⟩
      · rw [if_pos z1]
        exact wp_some (LV.bad (z2.after (y4.trans w2) fX) (F1.trans zf))
    · rw [if_neg ck0]
      by_cases ck1 : kdq q i2 = 62
      · obtain ⟨r, er, g, gf, g20, gk⟩ := go_c62 hq.1 hq.2.1 hq.2.2.1 h4.1 h4.2 h5.1 (by omega) h6.1 (by omega) hx hd (by omega) (by omega) ck1 (by rw [y6.1]; exact hA.1) (by rw [y7.1]; exact hA.2.1)
        have lt := hx.1.lt hq.1 (by show kdq q i2 ≠ 256; omega) (by show kdq q i2 ≠ 257; omega)
        obtain ⟨w1, w2⟩ := pre_op (need2 := 2) hq y3 er g h4.1 h4.2 h5.1 h5.2 h6.1 (by omega) (by omega) (by rw [y6.2.2]; exact h9) (by rw [y6.2.2]; exact h10) lt (by rw [gk 23 (by omega)])
        rw [if_pos ck1]
        unfold Pa_comparison_b38
        rw [y3.1.1.2, wI_ok (x := i2 + 1) (by omega) (by omega), pf_ok]
        have bc : BC 5 (P + 1) D r.2 := Or.inr (by rw [show P + 1 - 1 = P from by omega, g.2.2]; decide)
        refine wp_bm (H _ _ _ _ _ _ _ w1 bc ⟨by rw [g20]; decide, fun _ => Or.inl (by rw [gk 21 (by omega)]; exact y7.2.1)⟩) (fun a ⟨z, zf⟩ => ?_)
        have F1 : FCx q mC (upm p.2 1 7 (i2 + 1)) := yf.put1 hq (by decide)
        have fX : FX (qb q) (ql q) (D - 1) P mM r.2 := y5.trans gf
        have kk : KF D mM2 r.2 := ⟨by rw [gk 19 (by omega)], by rw [gk 22 (by omega)], by rw [gk 23 (by omega)]⟩
        rcases z with ⟨z1, i3, G3, Eb3, M3, mM3, z2, z3, z4, z5, z6, z7⟩ | ⟨z1, z2⟩
        · obtain ⟨mC2, c1, c2, c3⟩ := push_op (tr := true) (rk' := 4) (need' := 3) (op := 39) hq z3 (by rw [z5.2.2.2.2.2 P (by omega)]; exact g.2.2) (by decide) rfl (by decide) (by decide) (by decide) h6.1 h5.1 (by omega)
          rw [if_neg (by omega), mro_ok (z := qz q) z3.1.2.1 (kdf hq), show xm (qc q) 4 i2 = opc 39 from ck1.trans (show (62 : Int) = opc 39 from rfl), c1, Option.bind_some]
          exact wp_some ⟨Or.inl ⟨rfl, i3, _, _, _, mM3, by omega, c2, (y4.trans w2).trans z4, fX.trans (z5.mono (Int.le_refl _) (by omega)), (y6.trans kk).trans z6, ⟨by rw [z7.1, g20]; decide, fun _ => z7.2.2, trivial⟩⟩, (F1.trans zf).trans c3⟩
        · rw [if_pos z1]
          exact wp_some (LV.bad (z2.after (y4.trans w2) fX) (F1.trans zf))
      · rw [if_neg ck1]
        by_cases ck2 : kdq q i2 = 61
        · obtain ⟨r, er, g, gf, g20, gk⟩ := go_c61 hq.1 hq.2.1 hq.2.2.1 h4.1 h4.2 h5.1 (by omega) h6.1 (by omega) hx hd (by omega) (by omega) ck2 (by rw [y6.1]; exact hA.1) (by rw [y7.1]; exact hA.2.1)
          have lt := hx.1.lt hq.1 (by show kdq q i2 ≠ 256; omega) (by show kdq q i2 ≠ 257; omega)
          obtain ⟨w1, w2⟩ := pre_op (need2 := 2) hq y3 er g h4.1 h4.2 h5.1 h5.2 h6.1 (by omega) (by omega) (by rw [y6.2.2]; exact h9) (by rw [y6.2.2]; exact h10) lt (by rw [gk 23 (by omega)])
          rw [if_pos ck2]
          unfold Pa_comparison_b38
          rw [y3.1.1.2, wI_ok (x := i2 + 1) (by omega) (by omega), pf_ok]
          have bc : BC 5 (P + 1) D r.2 := Or.inr (by rw [show P + 1 - 1 = P from by omega, g.2.2]; decide)
          refine wp_bm (H _ _ _ _ _ _ _ w1 bc ⟨by rw [g20]; decide, fun _ => Or.inl (by rw [gk 21 (by omega)]; exact y7.2.1)⟩) (fun a ⟨z, zf⟩ => ?_)
          have F1 : FCx q mC (upm p.2 1 7 (i2 + 1)) := yf.put1 hq (by decide)
          have fX : FX (qb q) (ql q) (D - 1) P mM r.2 := y5.trans gf
          have kk : KF D mM2 r.2 := ⟨by rw [gk 19 (by omega)], by rw [gk 22 (by omega)], by rw [gk 23 (by omega)]⟩
          rcases z with ⟨z1, i3, G3, Eb3, M3, mM3, z2, z3, z4, z5, z6, z7⟩ | ⟨z1, z2⟩
          · obtain ⟨mC2, c1, c2, c3⟩ := push_op (tr := true) (rk' := 4) (need' := 3) (op := 40) hq z3 (by rw [z5.2.2.2.2.2 P (by omega)]; exact g.2.2) (by decide) rfl (by decide) (by decide) (by decide) h6.1 h5.1 (by omega)
            rw [if_neg (by omega), mro_ok (z := qz q) z3.1.2.1 (kdf hq), show xm (qc q) 4 i2 = opc 40 from ck2.trans (show (61 : Int) = opc 40 from rfl), c1, Option.bind_some]
            exact wp_some ⟨Or.inl ⟨rfl, i3, _, _, _, mM3, by omega, c2, (y4.trans w2).trans z4, fX.trans (z5.mono (Int.le_refl _) (by omega)), (y6.trans kk).trans z6, ⟨by rw [z7.1, g20]; decide, fun _ => z7.2.2, trivial⟩⟩, (F1.trans zf).trans c3⟩
          · rw [if_pos z1]
            exact wp_some (LV.bad (z2.after (y4.trans w2) fX) (F1.trans zf))
        · rw [if_neg ck2]
          rw [fail_ok hq.1 y3.1.1 hx.1, Option.bind_some]
          refine wp_some (LV.bad (LVb.after ?_ y4 y5) (yf.trans (fmC_K.x hq)))
          by_cases c7 : kdq q i2 = 257
          · exact bad_G hq (by decide) hx (go_bad hx.1 c7)
          · have e := go_nocmp hx c7 h5.1 (by omega) y7.2.2 ⟨ck0, ck1, ck2⟩ (by rw [y6.1]; exact hA.1) (by rw [y7.1]; exact hA.2.1)
            rw [hN.2.1, ← plc_1 c7] at e
            exact bad_G hq (by decide) hx e
  · rw [if_pos y1]
    exact wp_some (LV.bad y2 yf)
/-- outside of a bracket: what stays -/
def OU (q : zQ) (P D : Int) (mM m : zM) : Prop := FX (qb q) (ql q) (D - 1) P mM m ∧ KF D mM m ∧ m 20 (D - 1) = mM 20 (D - 1) ∧ m 21 (D - 1) = 0
theorem OU.step {q : zQ} {P D F P' : Int} {mM m m' : zM} (h : OU q P D mM m) (f : FX (qb q) (ql q) F P' m m') (hF : D ≤ F) (hP : P ≤ P') : OU q P D mM m' := by
  obtain ⟨h1, h2, h3, h4⟩ := h
  obtain ⟨a, b, c, d, e⟩ := f.2.2.2.2.1 (D - 1) (by omega)
  exact ⟨h1.trans (f.mono (by omega) hP), h2.trans (f.K (by omega)), by rw [b, h3], by rw [c, h4]⟩
theorem OU.o43 {q : zQ} {P D x : Int} {mM m : zM} (h : OU q P D mM m) : OU q P D mM (upm m 0 43 x) := h.step (FX.refl.put0 (by omega) : FX (qb q) (ql q) D P m (upm m 0 43 x)) (Int.le_refl _) (Int.le_refl _)
theorem OU.start {q : zQ} {P D : Int} {mM : zM} : OU q P D mM (upm mM 21 (D - 1) 0) := ⟨FX.refl.putF (by decide) (by decide) (by omega), ⟨ru1 (by decide), ru1 (by decide), ru1 (by decide)⟩, ru1 (by decide), ru3 rfl rfl⟩
theorem X00 {q : zQ} {i o P D : Int} {G : List zC} {m : zM} (h : XQ q 1 i o G P D m) : XMe (qc q) (qb q) (ql q) (qm q) 1 i o G [] P D m := by
  unfold XMe
  rw [show o + nots [] = o from by show o + 0 = o; omega, show P + (([] : List Int).length : Int) = P from by show P + 0 = P; omega]
  exact h
theorem GD_0 {q : zQ} {t : Bool} {rk need o P D i : Int} {T : List Bool} {G : List zC} {mC mM : zM} (h1 : XC q i o G mC) (h2 : XQ q 1 i o G P D mM) (hw : WG (qx q) G (t :: T)) (hr : ql q + (G.length : Int) + P + D ≤ xm (qc q) 5 i + 1) (hn : 0 ≤ need + (7 - o)) : GD q t rk need o T P D i G [] G mC mM := ⟨h1, X00 h2, by rw [List.reverse_nil, List.map_nil, List.append_nil], fun k hk => absurd hk (Nat.not_lt_zero k), fun x hx => absurd hx (List.not_mem_nil), hw, hr, hn⟩
/-- a bracket has been opened: what its inside finds -/
theorem pre_open {q : zQ} {need i i' o P D K : Int} {G : List zC} {T : List Bool} {mC' m1 r : zM} (hq : QH q) (h1 : XC q i' (o + 1) G mC') (hw : WG (qx q) G T) (h4 : 0 ≤ o ∧ o ≤ 6) (h5 : 1 ≤ D ∧ D ≤ o + 1) (h6 : 0 ≤ P ∧ P + 5 * (7 - o) ≤ 40) (h7 : (T.length : Int) + 5 * (7 - o) ≤ 40) (h8 : ql q + (G.length : Int) + P + D + 1 ≤ xm (qc q) 5 i' + 1) (hn : need ≤ 5) (g : OPN (qc q) (qb q) (ql q) (qm q) 0 i o P D K G m1 r) (hi : i + 1 = i') : PRE q need i' (o + 1) G T P (D + 1) mC' (upm r 0 43 0) := by
  obtain ⟨g1, g2, g3, g4, g5, g6⟩ := g
  rw [hi] at g1
  have e23 : upm r 0 43 0 23 (D + 1 - 1) = P := by rw [ru1 (by decide), show D + 1 - 1 = D from by omega]; exact g5
  exact ⟨h1, g1.o43, hw, ⟨by omega, by omega⟩, ⟨by omega, by omega⟩, ⟨h6.1, by omega⟩, by omega, by omega, by rw [e23]; exact h6.1, by rw [e23]; exact Int.le_refl _⟩
theorem fact_S {q : zQ} {rcF : Nat → Int → zM → Option (Int × zM)} {o : Int} (hq : QH q) (Ht : o ≤ 6 → TestS q (rcF 5 0) (o + 1)) (Hf : o ≤ 6 → FactS q (rcF 7 0) (o + 1)) (Hc : CompS q (rcF 8 0) o) : FactS q (Pa_fact rcF) o := by
  intro mC mM i G T P D hP hB hA
  obtain ⟨h1, h2, h3, h4, h5, h6, h7, h8, h9, h10⟩ := id hP
  have bi := h2.1.i0 hq.1
  have hN := h2.1.N hq.1
  have lo := hq.2.2.1
  have eD : D + 1 - 1 = D := by omega
  unfold Pa_fact
  rw [kind_ok hq.1 h1.1 h2.1, Option.bind_some]
  by_cases k91 : kdq q i = 91
  · have lt := h2.1.lt hq.1 (by show kdq q i ≠ 256; omega) (by show kdq q i ≠ 257; omega)
    have mono := hq.1.mono h2.1.1.1 lt
    have eO := op_brk h2 h5.1 (by omega) hA.1 hA.2.2 k91
    rw [if_pos k91]
    have h21 : XQ q 0 i o G P D (upm mM 21 (D - 1) 0) := h2.F (by decide)
    by_cases o7 : o < 7
    · rw [opening_1 hq h1 h2.1 h4.1 o7 k91, Option.bind_some, if_neg (show ¬ (1 : Int) = 0 by decide)]
      obtain ⟨r, er, g⟩ := opens_ok (K := 5) hq.1 h21 lt h4.1 o7 h5.1 (by omega) h6.1 (by omega)
      rw [er, Option.bind_some] at eO
      have XC1 : XC q (i + 1) (o + 1) G (upm (upm mC 1 6 (o + 1)) 1 7 (i + 1)) := (h1.u1 hq (o' := o + 1) (Or.inr ⟨rfl, rfl, rfl⟩)).u1 hq (Or.inl ⟨rfl, rfl, rfl⟩)
      have FC1 : FCx q mC (upm (upm mC 1 6 (o + 1)) 1 7 (i + 1)) := (FCx.refl.put1 hq (by decide)).put1 hq (by decide)
      have R1 : RC mM (upm r 0 43 0) := step_O h2.2.1.2.2.2.2.2 eO g.1.1.2.2.2.1 (by rw [hN.2.1, g.1.1.at]; omega)
      have hw := pre_open (need := 5) (T := T) hq XC1 h3 ⟨h4.1, by omega⟩ h5 ⟨h6.1, by omega⟩ (by omega) (by omega) (by decide) g rfl
      have O1 := (((OU.start (q := q) (P := P) (D := D) (mM := mM)).step g.2.2.2.2.2 (Int.le_refl _) (by omega)).o43 (x := 0))
      refine wp_bm (Ht (by omega) _ _ _ _ _ _ _ hw (Or.inl (by rw [eD, ru1 (by decide)]; exact g.2.2.2.2.1.symm)) ⟨by rw [eD, ru1 (by decide), g.2.1]; exact Or.inr (Or.inl rfl), by rw [eD, ru1 (by decide)]; exact g.2.2.1, by rw [eD, ru1 (by decide), g.2.2.2.1]; decide⟩) (fun p ⟨y, yf⟩ => ?_)
      rcases y with ⟨y1, i2, G2, Eb2, M2, mM2, y2, y3, y4, y5, y6, y7⟩ | ⟨y1, y2⟩
      · rw [if_neg (by omega)]
        have k19 : mM2 19 D = 5 := by have := y6.1; rw [eD, ru1 (by decide), g.2.1] at this; exact this
        have k23 : mM2 23 D = P := by have := y6.2.2; rw [eD, ru1 (by decide), g.2.2.2.2.1] at this; exact this
        unfold Xte at y7
        rw [eD] at y7 y5
        have O2 := O1.step y5 (Int.le_refl _) (Int.le_refl _)
        refine wp_bm (close_J (K := 5) (ch := 93) (x := 0) hq y3 h4.1 (by omega) (by decide) h5.1 (by omega) h6.1 (by omega) (by decide) k23 k19 (Or.inr (Or.inr ⟨rfl, rfl⟩)) y7.2.1 (fun _ => ⟨y7.1, y7.2.2⟩)) (fun s ⟨z, zf⟩ => ?_)
        rcases z with ⟨z1, mM3, z2, z3, z4, z5, z6, z7, z8⟩ | ⟨z1, z2⟩
        · rw [if_neg (by omega)]
          rw [if_neg (show ¬ (5 : Int) = 4 by decide), List.append_nil] at z4
          rw [if_pos rfl] at z6
          have lt2 := y3.2.1.1.lt hq.1 (by show kdq q i2 ≠ 256; omega) (by show kdq q i2 ≠ 257; omega)
          have mono2 := hq.1.mono y3.2.1.1.1.1 lt2
          have room := y3.2.2.2.2.2.2.1
          refine wp_some ⟨Or.inl ⟨rfl, i2 + 1, G2, [], G2, mM3, by omega, GD_0 z3 z4 y3.2.2.2.2.2.1 (by omega) (by omega), (R1.trans y4).trans z2, O2.1.trans (z5.mono (Int.le_refl _) (by omega)), O2.2.1.trans ⟨z7 19 (by omega), z7 22 (by omega), z7 23 (by omega)⟩, ⟨by rw [z6]; decide, fun w => by omega, trivial⟩⟩, (FC1.trans yf).trans zf⟩
        · rw [if_pos z1]
          exact wp_some (LV.bad (z2.after (R1.trans y4) O2.1) ((FC1.trans yf).trans zf))
      · rw [if_pos y1]
        exact wp_some (LV.bad (y2.after R1 O1.1) (FC1.trans yf))
    · rw [opening_7 hq h1 h2.1 (by omega) k91, Option.bind_some, if_pos rfl]
      rw [opens_7 h21.1.2.2.2.1 (by rw [h21.2.1.2.2.2.1]; omega), Option.bind_some, h21.1.at] at eO
      exact wp_some (LV.bad (bad_O hq (by decide) h2 eO (FX.refl.putF (by decide) (by decide) (by omega))) (fmC_K.x hq))
  · rw [if_neg k91]
    by_cases k326 : kdq q i = 326
    · have lt := h2.1.lt hq.1 (by show kdq q i ≠ 256; omega) (by show kdq q i ≠ 257; omega)
      have mono := hq.1.mono h2.1.1.1 lt
      have eO := op_not h2 h5.1 (by omega) hA.1 hA.2.2 k326
      rw [if_pos k326]
      have h40 := h2.2.1.2.2.2.1
      by_cases o7 : o < 7
      · rw [opening_1 hq h1 h2.1 h4.1 o7 k326, Option.bind_some, if_neg (show ¬ (1 : Int) = 0 by decide)]
        rw [if_neg (show ¬ mM 0 40 = 7 by omega)] at eO
        unfold M_operand_b79 at eO
        rw [if_neg (show ¬ 0 < mM 0 8 by rw [h2.1.2.2.2.1]; decide), pf_ok, h40, wI_ok (x := o + 1) (by omega) (by omega)] at eO
        have q1 : XQ q 0 i (o + 1) G P D (upm mM 0 40 (o + 1)) := by
          obtain ⟨p1, ⟨p2, p3, p4, p5, p6, p7⟩, p8⟩ := h2
          have e0 : ∀ j, j ≠ 40 → upm mM 0 40 (o + 1) 0 j = mM 0 j := fun j hj => ru2 hj
          exact ⟨p1.keep (upm_ne (by decide)) (fun j hj => e0 j (by omega)), ⟨by rw [e0 32 (by decide)]; exact p2, by rw [e0 33 (by decide)]; exact p3, by rw [e0 39 (by decide)]; exact p4, ru3 rfl rfl, by rw [e0 42 (by decide)]; exact p6, by rw [e0 43 (by decide)]; exact p7⟩, p8.keep (e0 31 (by decide)) (upm_ne (by decide)) (upm_ne (by decide))⟩
        obtain ⟨g1, g2⟩ := hold_ok (op := 43) q1 h6.1 (by omega)
        rw [g1, Option.bind_some] at eO
        obtain ⟨r, er, r1, r2⟩ := g2.ahead hq.1 lt
        rw [er, Option.bind_some] at eO
        have XC1 : XC q (i + 1) (o + 1) G (upm (upm mC 1 6 (o + 1)) 1 7 (i + 1)) := (h1.u1 hq (o' := o + 1) (Or.inr ⟨rfl, rfl, rfl⟩)).u1 hq (Or.inl ⟨rfl, rfl, rfl⟩)
        have FC1 : FCx q mC (upm (upm mC 1 6 (o + 1)) 1 7 (i + 1)) := (FCx.refl.put1 hq (by decide)).put1 hq (by decide)
        have R1 : RC mM (upm r 0 43 0) := step_O h2.2.1.2.2.2.2.2 eO r1.1.2.2.2.1 (by rw [hN.2.1, r1.1.at]; omega)
        have f1 : FX (qb q) (ql q) 1000 P mM (upm r 0 43 0) := ((((FX.refl.put0 (by omega)).putP (by omega)).put0 (by omega)).trans r2.X).put0 (by omega)
        obtain ⟨a19, a20, a21, a22, a23⟩ := f1.2.2.2.2.1 (D - 1) (by omega)
        have e24 : upm r 0 43 0 24 P = 43 := by rw [ru1 (by decide), r2.G.cell (by decide), ru1 (by decide), ru3 rfl rfl]
        have hw : PRE q 3 (i + 1) (o + 1) G T (P + 1) D (upm (upm mC 1 6 (o + 1)) 1 7 (i + 1)) (upm r 0 43 0) := ⟨XC1, r1.o43, h3, ⟨by omega, by omega⟩, ⟨h5.1, by omega⟩, ⟨by omega, by omega⟩, by omega, by omega, by rw [a23]; exact h9, by rw [a23]; omega⟩
        refine wp_bm (Hf (by omega) _ _ _ _ _ _ _ hw (Or.inr (by rw [show P + 1 - 1 = P from by omega, e24]; decide)) ⟨by rw [a19]; exact hA.1, by rw [a20]; exact hA.2.1, by rw [a21]; exact hA.2.2⟩) (fun p ⟨y, yf⟩ => ?_)
        rcases y with ⟨y1, i2, G2, Eb2, M2, mM2, y2, y3, y4, y5, y6, y7⟩ | ⟨y1, y2⟩
        · obtain ⟨mC2, c1, c2, c3⟩ := push_not hq y3 (by rw [y5.2.2.2.2.2 P (by omega)]; exact e24) h6.1 h5.1 (by omega)
          rw [if_neg (by omega), y3.1.2.2.2.1, wI_ok (x := o + 1 - 1) (by omega) (by omega), show o + 1 - 1 = o from by omega, pf_ok, mro_ok (z := qz q) (by rw [ru2 (by decide)]; exact y3.1.2.1) (kdf hq), c1, Option.bind_some]
          exact wp_some ⟨Or.inl ⟨rfl, i2, _, _, _, mM2, by omega, c2, R1.trans y4, (f1.mono (by omega) (Int.le_refl _)).trans (y5.mono (Int.le_refl _) (by omega)), (f1.K (by omega)).trans y6, y7⟩, (FC1.trans yf).trans c3⟩
        · rw [if_pos y1]
          exact wp_some (LV.bad (y2.after R1 f1) (FC1.trans yf))
      · rw [opening_7 hq h1 h2.1 (by omega) k326, Option.bind_some, if_pos rfl]
        rw [if_pos (show mM 0 40 = 7 by omega), hN.2.1] at eO
        exact wp_some (LV.bad (bad_O hq (by decide) h2 eO FX.refl) (fmC_K.x hq))
    · rw [if_neg k326]
      by_cases k327 : kdq q i = 327
      · have lt := h2.1.lt hq.1 (by show kdq q i ≠ 256; omega) (by show kdq q i ≠ 257; omega)
        have mono := hq.1.mono h2.1.1.1 lt
        have low := hq.1.low h2.1.1.1 lt
        have eO := op_all h2 h5.1 (by omega) hA.1 hA.2.2 k327
        have h21 : XQ q 0 i o G P D (upm mM 21 (D - 1) 0) := h2.F (by decide)
        obtain ⟨m1, b1', b2, b3⟩ := add_M (s := 30) (v := 0) (x := 257) h21.2.2 h21.2.1.1 hq.2.1 lo (by omega)
        have f1 : FJ (qb q) (ql q) (upm mM 21 (D - 1) 0) m1 := by
          rw [b3]
          exact FJ.refl.add (by omega) (by omega)
        have ea : ∀ j, j ≠ 31 → m1 0 j = upm mM 21 (D - 1) 0 0 j := fun j hj => by rw [b3, ru2 hj, ru1 (by decide), ru1 (by decide)]
        have q1 : XQ q 0 i o (G ++ [(257, 30, 0)]) P D m1 := ⟨h21.1.keep (f1.1 1 (by decide) (by decide) (by decide)) (fun j hj => ea j (by omega)), by rw [ea 32 (by decide), ea 33 (by decide), ea 39 (by decide), ea 40 (by decide), ea 42 (by decide), ea 43 (by decide)]; exact h21.2.1, b2⟩
        rw [b1', Option.bind_some, wr_ok (by omega) (by omega)] at eO
        obtain ⟨r, er, r1, r2⟩ := (q1.F (a := 20) (j := D - 1) (x := 2) (by decide)).ahead hq.1 lt
        rw [er, Option.bind_some] at eO
        have R1 : RC mM (upm r 0 43 1) := step_O h2.2.1.2.2.2.2.2 eO r1.1.2.2.2.1 (by rw [hN.2.1, r1.1.at]; omega)
        obtain ⟨mC2, c1, c2, c3⟩ := h1.add (s := 30) (v := 0) (x := 1) (op := 1) hq (by decide) (by decide) (by decide) (by decide) (by omega)
        have e20 : upm r 0 43 1 20 (D - 1) = 2 := by rw [ru1 (by decide), r2.G.cell (by decide), ru3 rfl rfl]
        have fX : FX (qb q) (ql q) (D - 1) P mM (upm r 0 43 1) := (((((FX.refl.putF (by decide) (by decide) (by omega)).trans (f1.X lo)).putF (by decide) (by decide) (by omega)).trans r2.X).put0 (by omega))
        have c : ∀ a, a = 19 ∨ a = 22 ∨ a = 23 → upm r 0 43 1 a (D - 1) = mM a (D - 1) := fun a ha => by rw [ru1 (by omega), r2.G.cell (by omega), ru1 (by omega), f1.1 a (by omega) (by omega) (by omega), ru1 (by omega)]
        rw [if_pos k327, mro_ok (z := qz q) h1.2.1 (kdf hq), c1, Option.bind_some, c2.1.2, wI_ok (x := i + 1) (by omega) (by omega), pf_ok]
        refine wp_some ⟨Or.inl ⟨rfl, i + 1, _, [], G ++ [(257, 30, 0)], upm r 0 43 1, by omega, GD_0 (c2.u1 hq (Or.inl ⟨rfl, rfl, rfl⟩)) r1.o43 ?_ ?_ (by omega), R1, fX, ⟨c 19 (by omega), c 22 (by omega), c 23 (by omega)⟩, ⟨by rw [e20]; decide, fun w => by omega, trivial⟩⟩, c3.put1 hq (by decide)⟩
        · exact h3.push rfl (by rw [List.length_cons]; omega) (by show crel 257 30 0; unfold crel; decide) (Or.inr (by decide))
        · rw [List.length_append, List.length_singleton]
          omega
      · rw [if_neg k327]
        refine wp_bm (Hc _ _ _ _ _ _ _ hP hB hA ⟨k326, k91, k327⟩) (fun p y => wp_some ?_)
        exact y.mono (by decide) (Int.le_refl _) (fun _ _ w => w)
