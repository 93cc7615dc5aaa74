/-! sums and tests: levels with operators -/
def ArPre (q : zQ) (i D : Int) (mM : zM) : Prop := mM 20 (D - 1) < 2 ∧ (isT (mM 19 (D - 1)) → mM 21 (D - 1) = 0 ∨ (kdq q i ≠ 326 ∧ kdq q i ≠ 91 ∧ kdq q i ≠ 327))
def TePre (D : Int) (mM : zM) : Prop := isT (mM 19 (D - 1)) ∧ mM 20 (D - 1) = 0 ∧ mM 21 (D - 1) ≠ 0
def Xar (D : Int) (mM : zM) (tk : Int → Prop) (i : Int) (m : zM) : Prop := m 20 (D - 1) = mM 20 (D - 1) ∧ m 21 (D - 1) = 0 ∧ tk i
def Xte (q : zQ) (D : Int) (tk : Int → Prop) (i : Int) (m : zM) : Prop := m 20 (D - 1) ≠ 0 ∧ (m 20 (D - 1) < 2 → nar q i) ∧ tk i
def nmu (q : zQ) (i : Int) : Prop := kdq q i ≠ 42 ∧ kdq q i ≠ 47 ∧ kdq q i ≠ 37
def tT : Int → Prop := fun _ => True
def nAnd (q : zQ) (i : Int) : Prop := kdq q i ≠ 325
def nAO (q : zQ) (i : Int) : Prop := kdq q i ≠ 324 ∧ kdq q i ≠ 325
abbrev zF : Type := zM → Option (Int × zM)
def PartS (q : zQ) (F : zF) (o : Int) : Prop := ∀ (mC mM : zM) (i : Int) (G : List zC) (T : List Bool) (P D : Int), PRE q 0 i o G T P D mC mM → ArPre q i D mM → wp (F mC) (LV q false 7 0 (Xar D mM tT) i o T P D mC mM)
def ProdS (q : zQ) (F : zF) (o : Int) : Prop := ∀ (mC mM : zM) (i : Int) (G : List zC) (T : List Bool) (P D : Int), PRE q 1 i o G T P D mC mM → BC 6 P D mM → ArPre q i D mM → wp (F mC) (LV q false 6 1 (Xar D mM (nmu q)) i o T P D mC mM)
def SumS (q : zQ) (F : zF) (o : Int) : Prop := ∀ (mC mM : zM) (i : Int) (G : List zC) (T : List Bool) (P D : Int), PRE q 2 i o G T P D mC mM → BC 5 P D mM → ArPre q i D mM → wp (F mC) (LV q false 5 2 (Xar D mM (nar q)) i o T P D mC mM)
def FunS (q : zQ) (F : zF) (o kd : Int) : Prop := ∀ (mC mM : zM) (i : Int) (G : List zC) (T : List Bool) (P D : Int), PRE q 0 i o G T P D mC mM → ArPre q i D mM → kdq q i = kd → wp (F mC) (LV q false 7 0 (Xar D mM tT) i o T P D mC mM)
def CompS (q : zQ) (F : zF) (o : Int) : Prop := ∀ (mC mM : zM) (i : Int) (G : List zC) (T : List Bool) (P D : Int), PRE q 3 i o G T P D mC mM → BC 4 P D mM → TePre D mM → kdq q i ≠ 326 ∧ kdq q i ≠ 91 ∧ kdq q i ≠ 327 → wp (F mC) (LV q true 4 3 (Xte q D tT) i o T P D mC mM)
def FactS (q : zQ) (F : zF) (o : Int) : Prop := ∀ (mC mM : zM) (i : Int) (G : List zC) (T : List Bool) (P D : Int), PRE q 3 i o G T P D mC mM → BC 4 P D mM → TePre D mM → wp (F mC) (LV q true 3 3 (Xte q D tT) i o T P D mC mM)
def BothS (q : zQ) (F : zF) (o : Int) : Prop := ∀ (mC mM : zM) (i : Int) (G : List zC) (T : List Bool) (P D : Int), PRE q 4 i o G T P D mC mM → BC 2 P D mM → TePre D mM → wp (F mC) (LV q true 2 4 (Xte q D (nAnd q)) i o T P D mC mM)
def TestS (q : zQ) (F : zF) (o : Int) : Prop := ∀ (mC mM : zM) (i : Int) (G : List zC) (T : List Bool) (P D : Int), PRE q 5 i o G T P D mC mM → BC 1 P D mM → TePre D mM → wp (F mC) (LV q true 1 5 (Xte q D (nAO q)) i o T P D mC mM)
theorem PRE.mono {q : zQ} {n n' i o P D : Int} {G : List zC} {T : List Bool} {mC mM : zM} (h : PRE q n i o G T P D mC mM) (hn : n' ≤ n) : PRE q n' i o G T P D mC mM := by
  obtain ⟨h1, h2, h3, h4, h5, h6, h7, h8, h9, h10⟩ := h
  exact ⟨h1, h2, h3, h4, h5, ⟨h6.1, by omega⟩, by omega, h8, h9, h10⟩
theorem BC.mono {l l' P D : Int} {m : zM} (h : BC l P D m) (hl : l ≤ l') : BC l' P D m := by
  rcases h with h | h
  · exact Or.inl h
  · exact Or.inr (by omega)
theorem BC.keep {l P D b lo F : Int} {m m' : zM} (h : BC l P D m) (f : FX b lo F P m m') (k : KF D m m') : BC l P D m' := by
  unfold BC at h ⊢
  rw [k.2.2, f.2.2.2.2.2 (P - 1) (by omega)]
  exact h
theorem GD.mono {q : zQ} {t : Bool} {rk need rk' need' o P D i : Int} {T : List Bool} {G M : List zC} {Eb : List Int} {mC mM : zM} (h : GD q t rk need o T P D i G Eb M mC mM) (hr : rk' ≤ rk) (hn : need ≤ need') : GD q t rk' need' o T P D i G Eb M mC mM := by
  obtain ⟨h1, h2, h3, h4, h5, h6, h7, h8⟩ := h
  exact ⟨h1, h2, h3, h4, fun op ho => by have := h5 op ho; omega, h6, h7, by omega⟩
/-- the model has taken an operator: what the next operand finds -/
theorem pre_op {q : zQ} {t : Bool} {rk need need2 o P D i op : Int} {T : List Bool} {G M : List zC} {Eb : List Int} {mC mM : zM} {r : Int × zM} (hq : QH q) (h : GD q t rk need o T P D i G Eb M mC mM) (er : M_goesOn mM = some r) (g : GO1 (qc q) (qb q) (ql q) (qm q) i o P D op M Eb mM r) (o0 : 0 ≤ o) (o1 : o ≤ 7) (D0 : 1 ≤ D) (D1 : D ≤ o + 1) (P0 : 0 ≤ P) (P1 : P + 1 + need2 + 5 * (7 - o) ≤ 40) (T1 : (T.length : Int) + 1 + need2 + 5 * (7 - o) ≤ 40) (B0 : 0 ≤ mM 23 (D - 1)) (B1 : mM 23 (D - 1) ≤ P) (hi : i < xl (qc q)) (e23 : r.2 23 (D - 1) = mM 23 (D - 1)) : PRE q need2 (i + 1) o G (t :: T) (P + 1) D (upm mC 1 7 (i + 1)) r.2 ∧ RC mM r.2 := by
  obtain ⟨g1, g2, g3⟩ := g
  rw [← h.2.2.1] at g2
  have hx := h.2.1
  have hN := hx.1.N hq.1
  have mono := hq.1.mono hx.1.1.1 hi
  have hroom := h.2.2.2.2.2.2.1
  refine ⟨⟨h.1.u1 hq (Or.inl ⟨rfl, rfl, rfl⟩), g2, h.2.2.2.2.2.1, ⟨o0, o1⟩, ⟨D0, D1⟩, ⟨by omega, P1⟩, by rw [List.length_cons]; omega, by omega, by rw [e23]; exact B0, by rw [e23]; omega⟩, step_G hx.2.1.2.2.2.2.2 (by rw [er, ← g1]) g2.1.2.2.2.1 (by rw [hN.2.1, g2.1.at]; omega)⟩
theorem LV.bad {q : zQ} {t : Bool} {rk need : Int} {X : Int → zM → Prop} {i o P D : Int} {T : List Bool} {mC mM p : zM} (h : LVb q mM p) (f : FCx q mC p) : LV q t rk need X i o T P D mC mM (0, p) := ⟨Or.inr ⟨rfl, h⟩, f⟩
theorem prod_L {q : zQ} {rcF : Nat → Int → zM → Option (Int × zM)} {o P D i : Int} {T : List Bool} {mC0 mM : zM} (hq : QH q) (H : PartS q (rcF 2 0) o) (o0 : 0 ≤ o) (o1 : o ≤ 7) (D0 : 1 ≤ D) (D1 : D ≤ o + 1) (P0 : 0 ≤ P) (P1 : P + 1 + 5 * (7 - o) ≤ 40) (T1 : (T.length : Int) + 1 + 5 * (7 - o) ≤ 40) (B0 : 0 ≤ mM 23 (D - 1)) (B1 : mM 23 (D - 1) ≤ P) (hb : BC 6 P D mM) (hph : mM 20 (D - 1) < 2) : ∀ (n : Nat) (x1 : Int) (mC mM' : zM) (i' : Int) (G : List zC) (Eb : List Int) (M : List zC), GD q false 6 1 o T P D i' G Eb M mC mM' → RC mM mM' → FX (qb q) (ql q) (D - 1) P mM mM' → KF D mM mM' → mM' 20 (D - 1) = mM 20 (D - 1) → mM' 21 (D - 1) = 0 → i < i' → 0 ≤ x1 → x1 + 1 ≤ i' → 1602 - i' < (n : Int) → FCx q mC0 mC → wp (Pa_product_L11 rcF n x1 mC) (LV q false 6 1 (Xar D mM (nmu q)) i o T P D mC0 mM) := by
  intro n
  induction n with
  | zero =>
    intro x1 mC mM' i' G Eb M h rc x k p20 p21 hii x0 x1i hn f
    have := (h.2.1.1.i0 hq.1).2.1
    omega
  | succ n ih =>
    intro x1 mC mM' i' G Eb M h rc x k p20 p21 hii x0 x1i hn f
    have hx := h.2.1
    have bi := hx.1.i0 hq.1
    have hl := h.len
    have hN := hx.1.N hq.1
    have hroom := h.2.2.2.2.2.2.1
    have hEb := h.2.2.2.2.2.2.2
    have hd := h.HD (least := 6) (Int.le_refl _) (by rw [k.2.2]; exact B0) (by rw [k.2.2]; exact B1) (hb.keep x k)
    show wp (Pa_product_B11 _ _ _ _) _
    unfold Pa_product_B11
    rw [if_pos (show x1 < 1600 by omega), kind_ok hq.1 h.1.1 hx.1, Option.bind_some]
    by_cases ck0 : kdq q i' = 42
    · obtain ⟨r, er, g, gf⟩ := go_s42 hq.1 hq.2.1 hq.2.2.1 o0 o1 D0 (by omega) P0 (by omega) hx hd (by omega) (by omega) ck0 (by rw [p20]; exact hph)
      have e23 : r.2 23 (D - 1) = mM' 23 (D - 1) := (gf.2.2.2.2.1 (D - 1) (by omega)).2.2.2.2
      have e20 : r.2 20 (D - 1) = mM' 20 (D - 1) := (gf.2.2.2.2.1 (D - 1) (by omega)).2.1
      have e21 : r.2 21 (D - 1) = mM' 21 (D - 1) := (gf.2.2.2.2.1 (D - 1) (by omega)).2.2.1
      have lt := hx.1.lt hq.1 (by show kdq q i' ≠ 256; omega) (by show kdq q i' ≠ 257; omega)
      obtain ⟨w1, w2⟩ := pre_op (need2 := 0) hq h er g o0 o1 D0 D1 P0 (by omega) (by omega) (by rw [k.2.2]; exact B0) (by rw [k.2.2]; exact B1) lt e23
      rw [if_pos ck0]
      unfold Pa_product_b43
      rw [h.1.1.2, wI_ok (x := i' + 1) (by omega) (by omega), pf_ok]
      have bc : BC 7 (P + 1) D r.2 := Or.inr (by rw [show P + 1 - 1 = P from by omega, g.2.2]; decide)
      refine wp_bm (H _ _ _ _ _ _ _ w1 ⟨by rw [e20, p20]; exact hph, fun _ => Or.inl (by rw [e21]; exact p21)⟩) (fun a ⟨y, yf⟩ => ?_)
      have F1 : FCx q mC0 (upm mC 1 7 (i' + 1)) := f.put1 hq (by decide)
      have fX : FX (qb q) (ql q) (D - 1) P mM r.2 := x.trans (gf.mono (by omega) (Int.le_refl _))
      rcases y with ⟨y1, i2, G2, Eb2, M2, mM2, y2, y3, y4, y5, y6, y7⟩ | ⟨y1, y2⟩
      · obtain ⟨mC2, c1, c2, c3⟩ := push_op (tr := false) (rk' := 6) (need' := 1) (op := 33) hq y3 (by rw [y5.2.2.2.2.2 P (by omega)]; exact g.2.2) (by decide) rfl (by decide) (by decide) (by decide) P0 D0 (by omega)
        rw [if_neg (by omega), mro_ok (z := qz q) y3.1.2.1 (kdf hq), show xm (qc q) 4 i' = opc 33 from ck0.trans (show (42 : Int) = opc 33 from rfl), c1, Option.bind_some, wI_ok (x := x1 + 1) (by omega) (by omega)]
        exact ih (x1 + 1) mC2 mM2 i2 _ _ _ c2 ((rc.trans w2).trans y4) (fX.trans (y5.mono (Int.le_refl _) (by omega))) ((k.trans (gf.K (by omega))).trans y6) (by rw [y7.1, e20]; exact p20) y7.2.1 (by omega) (by omega) (by omega) (by omega) ((F1.trans yf).trans c3)
      · rw [if_pos y1]
        exact wp_some (LV.bad (y2.after (rc.trans w2) fX) (F1.trans yf))
    · rw [if_neg ck0]
      by_cases ck1 : kdq q i' = 47
      · obtain ⟨r, er, g, gf⟩ := go_s47 hq.1 hq.2.1 hq.2.2.1 o0 o1 D0 (by omega) P0 (by omega) hx hd (by omega) (by omega) ck1 (by rw [p20]; exact hph)
        have e23 : r.2 23 (D - 1) = mM' 23 (D - 1) := (gf.2.2.2.2.1 (D - 1) (by omega)).2.2.2.2
        have e20 : r.2 20 (D - 1) = mM' 20 (D - 1) := (gf.2.2.2.2.1 (D - 1) (by omega)).2.1
        have e21 : r.2 21 (D - 1) = mM' 21 (D - 1) := (gf.2.2.2.2.1 (D - 1) (by omega)).2.2.1
        have lt := hx.1.lt hq.1 (by show kdq q i' ≠ 256; omega) (by show kdq q i' ≠ 257; omega)
        obtain ⟨w1, w2⟩ := pre_op (need2 := 0) hq h er g o0 o1 D0 D1 P0 (by omega) (by omega) (by rw [k.2.2]; exact B0) (by rw [k.2.2]; exact B1) lt e23
        rw [if_pos ck1]
        unfold Pa_product_b43
        rw [h.1.1.2, wI_ok (x := i' + 1) (by omega) (by omega), pf_ok]
        have bc : BC 7 (P + 1) D r.2 := Or.inr (by rw [show P + 1 - 1 = P from by omega, g.2.2]; decide)
        refine wp_bm (H _ _ _ _ _ _ _ w1 ⟨by rw [e20, p20]; exact hph, fun _ => Or.inl (by rw [e21]; exact p21)⟩) (fun a ⟨y, yf⟩ => ?_)
        have F1 : FCx q mC0 (upm mC 1 7 (i' + 1)) := f.put1 hq (by decide)
        have fX : FX (qb q) (ql q) (D - 1) P mM r.2 := x.trans (gf.mono (by omega) (Int.le_refl _))
        rcases y with ⟨y1, i2, G2, Eb2, M2, mM2, y2, y3, y4, y5, y6, y7⟩ | ⟨y1, y2⟩
        · obtain ⟨mC2, c1, c2, c3⟩ := push_op (tr := false) (rk' := 6) (need' := 1) (op := 34) hq y3 (by rw [y5.2.2.2.2.2 P (by omega)]; exact g.2.2) (by decide) rfl (by decide) (by decide) (by decide) P0 D0 (by omega)
          rw [if_neg (by omega), mro_ok (z := qz q) y3.1.2.1 (kdf hq), show xm (qc q) 4 i' = opc 34 from ck1.trans (show (47 : Int) = opc 34 from rfl), c1, Option.bind_some, wI_ok (x := x1 + 1) (by omega) (by omega)]
          exact ih (x1 + 1) mC2 mM2 i2 _ _ _ c2 ((rc.trans w2).trans y4) (fX.trans (y5.mono (Int.le_refl _) (by omega))) ((k.trans (gf.K (by omega))).trans y6) (by rw [y7.1, e20]; exact p20) y7.2.1 (by omega) (by omega) (by omega) (by omega) ((F1.trans yf).trans c3)
        · rw [if_pos y1]
          exact wp_some (LV.bad (y2.after (rc.trans w2) fX) (F1.trans yf))
      · rw [if_neg ck1]
        by_cases ck2 : kdq q i' = 37
        · obtain ⟨r, er, g, gf⟩ := go_s37 hq.1 hq.2.1 hq.2.2.1 o0 o1 D0 (by omega) P0 (by omega) hx hd (by omega) (by omega) ck2 (by rw [p20]; exact hph)
          have e23 : r.2 23 (D - 1) = mM' 23 (D - 1) := (gf.2.2.2.2.1 (D - 1) (by omega)).2.2.2.2
          have e20 : r.2 20 (D - 1) = mM' 20 (D - 1) := (gf.2.2.2.2.1 (D - 1) (by omega)).2.1
          have e21 : r.2 21 (D - 1) = mM' 21 (D - 1) := (gf.2.2.2.2.1 (D - 1) (by omega)).2.2.1
          have lt := hx.1.lt hq.1 (by show kdq q i' ≠ 256; omega) (by show kdq q i' ≠ 257; omega)
          obtain ⟨w1, w2⟩ := pre_op (need2 := 0) hq h er g o0 o1 D0 D1 P0 (by omega) (by omega) (by rw [k.2.2]; exact B0) (by rw [k.2.2]; exact B1) lt e23
          rw [if_pos ck2]
          unfold Pa_product_b43
          rw [h.1.1.2, wI_ok (x := i' + 1) (by omega) (by omega), pf_ok]
          have bc : BC 7 (P + 1) D r.2 := Or.inr (by rw [show P + 1 - 1 = P from by omega, g.2.2]; decide)
          refine wp_bm (H _ _ _ _ _ _ _ w1 ⟨by rw [e20, p20]; exact hph, fun _ => Or.inl (by rw [e21]; exact p21)⟩) (fun a ⟨y, yf⟩ => ?_)
          have F1 : FCx q mC0 (upm mC 1 7 (i' + 1)) := f.put1 hq (by decide)
          have fX : FX (qb q) (ql q) (D - 1) P mM r.2 := x.trans (gf.mono (by omega) (Int.le_refl _))
          rcases y with ⟨y1, i2, G2, Eb2, M2, mM2, y2, y3, y4, y5, y6, y7⟩ | ⟨y1, y2⟩
          · obtain ⟨mC2, c1, c2, c3⟩ := push_op (tr := false) (rk' := 6) (need' := 1) (op := 35) hq y3 (by rw [y5.2.2.2.2.2 P (by omega)]; exact g.2.2) (by decide) rfl (by decide) (by decide) (by decide) P0 D0 (by omega)
            rw [if_neg (by omega), mro_ok (z := qz q) y3.1.2.1 (kdf hq), show xm (qc q) 4 i' = opc 35 from ck2.trans (show (37 : Int) = opc 35 from rfl), c1, Option.bind_some, wI_ok (x := x1 + 1) (by omega) (by omega)]
            exact ih (x1 + 1) mC2 mM2 i2 _ _ _ c2 ((rc.trans w2).trans y4) (fX.trans (y5.mono (Int.le_refl _) (by omega))) ((k.trans (gf.K (by omega))).trans y6) (by rw [y7.1, e20]; exact p20) y7.2.1 (by omega) (by omega) (by omega) (by omega) ((F1.trans yf).trans c3)
          · rw [if_pos y1]
            exact wp_some (LV.bad (y2.after (rc.trans w2) fX) (F1.trans yf))
        · rw [if_neg ck2]
          exact wp_some ⟨Or.inl ⟨rfl, i', G, Eb, M, mM', hii, h, rc, x, k, ⟨p20, p21, ⟨ck0, ck1, ck2⟩⟩⟩, f⟩
theorem prod_S {q : zQ} {rcF : Nat → Int → zM → Option (Int × zM)} {o : Int} (hq : QH q) (H : PartS q (rcF 2 0) o) : ProdS q (Pa_product rcF) o := by
  intro mC mM i G T P D hP hB hA
  obtain ⟨h1, h2, h3, h4, h5, h6, h7, h8, h9, h10⟩ := id hP
  unfold Pa_product
  refine wp_bm (H _ _ _ _ _ _ _ (hP.mono (by decide)) hA) (fun a ⟨y, yf⟩ => ?_)
  rcases y with ⟨y1, i2, G2, Eb2, M2, mM2, y2, y3, y4, y5, y6, y7⟩ | ⟨y1, y2⟩
  · rw [if_neg (by omega)]
    have i0 := h2.1.1.1
    exact prod_L hq H h4.1 h4.2 h5.1 h5.2 h6.1 h6.2 h7 h9 h10 hB hA.1 1000000 0 a.2 mM2 i2 G2 Eb2 M2 (y3.mono (by decide) (by decide)) y4 y5 y6 y7.1 y7.2.1 y2 (by decide) (by omega) (by omega) yf
  · rw [if_pos y1]
    exact wp_some (LV.bad y2 yf)
theorem sum_L {q : zQ} {rcF : Nat → Int → zM → Option (Int × zM)} {o P D i : Int} {T : List Bool} {mC0 mM : zM} (hq : QH q) (H : ProdS q (rcF 1 0) o) (o0 : 0 ≤ o) (o1 : o ≤ 7) (D0 : 1 ≤ D) (D1 : D ≤ o + 1) (P0 : 0 ≤ P) (P1 : P + 2 + 5 * (7 - o) ≤ 40) (T1 : (T.length : Int) + 2 + 5 * (7 - o) ≤ 40) (B0 : 0 ≤ mM 23 (D - 1)) (B1 : mM 23 (D - 1) ≤ P) (hb : BC 5 P D mM) (hph : mM 20 (D - 1) < 2) : ∀ (n : Nat) (x1 : Int) (mC mM' : zM) (i' : Int) (G : List zC) (Eb : List Int) (M : List zC), GD q false 5 2 o T P D i' G Eb M mC mM' → RC mM mM' → FX (qb q) (ql q) (D - 1) P mM mM' → KF D mM mM' → mM' 20 (D - 1) = mM 20 (D - 1) → mM' 21 (D - 1) = 0 → nmu q i' → i < i' → 0 ≤ x1 → x1 + 1 ≤ i' → 1602 - i' < (n : Int) → FCx q mC0 mC → wp (Pa_sum_L11 rcF n x1 mC) (LV q false 5 2 (Xar D mM (nar q)) i o T P D mC0 mM) := by
  intro n
  induction n with
  | zero =>
    intro x1 mC mM' i' G Eb M h rc x k p20 p21 ptk hii x0 x1i hn f
    have := (h.2.1.1.i0 hq.1).2.1
    omega
  | succ n ih =>
    intro x1 mC mM' i' G Eb M h rc x k p20 p21 ptk hii x0 x1i hn f
    have hx := h.2.1
    have bi := hx.1.i0 hq.1
    have hl := h.len
    have hN := hx.1.N hq.1
    have hroom := h.2.2.2.2.2.2.1
    have hEb := h.2.2.2.2.2.2.2
    have hd := h.HD (least := 5) (Int.le_refl _) (by rw [k.2.2]; exact B0) (by rw [k.2.2]; exact B1) (hb.keep x k)
    show wp (Pa_sum_B11 _ _ _ _) _
    unfold Pa_sum_B11
    rw [if_pos (show x1 < 1600 by omega), kind_ok hq.1 h.1.1 hx.1, Option.bind_some]
    by_cases ck0 : kdq q i' = 43
    · obtain ⟨r, er, g, gf⟩ := go_s43 hq.1 hq.2.1 hq.2.2.1 o0 o1 D0 (by omega) P0 (by omega) hx hd (by omega) (by omega) ck0 (by rw [p20]; exact hph)
      have e23 : r.2 23 (D - 1) = mM' 23 (D - 1) := (gf.2.2.2.2.1 (D - 1) (by omega)).2.2.2.2
      have e20 : r.2 20 (D - 1) = mM' 20 (D - 1) := (gf.2.2.2.2.1 (D - 1) (by omega)).2.1
      have e21 : r.2 21 (D - 1) = mM' 21 (D - 1) := (gf.2.2.2.2.1 (D - 1) (by omega)).2.2.1
      have lt := hx.1.lt hq.1 (by show kdq q i' ≠ 256; omega) (by show kdq q i' ≠ 257; omega)
      obtain ⟨w1, w2⟩ := pre_op (need2 := 1) hq h er g o0 o1 D0 D1 P0 (by omega) (by omega) (by rw [k.2.2]; exact B0) (by rw [k.2.2]; exact B1) lt e23
      rw [if_pos ck0]
      unfold Pa_sum_b37
      rw [h.1.1.2, wI_ok (x := i' + 1) (by omega) (by omega), pf_ok]
      have bc : BC 6 (P + 1) D r.2 := Or.inr (by rw [show P + 1 - 1 = P from by omega, g.2.2]; decide)
      refine wp_bm (H _ _ _ _ _ _ _ w1 bc ⟨by rw [e20, p20]; exact hph, fun _ => Or.inl (by rw [e21]; exact p21)⟩) (fun a ⟨y, yf⟩ => ?_)
      have F1 : FCx q mC0 (upm mC 1 7 (i' + 1)) := f.put1 hq (by decide)
      have fX : FX (qb q) (ql q) (D - 1) P mM r.2 := x.trans (gf.mono (by omega) (Int.le_refl _))
      rcases y with ⟨y1, i2, G2, Eb2, M2, mM2, y2, y3, y4, y5, y6, y7⟩ | ⟨y1, y2⟩
      · obtain ⟨mC2, c1, c2, c3⟩ := push_op (tr := false) (rk' := 5) (need' := 2) (op := 31) hq y3 (by rw [y5.2.2.2.2.2 P (by omega)]; exact g.2.2) (by decide) rfl (by decide) (by decide) (by decide) P0 D0 (by omega)
        rw [if_neg (by omega), mro_ok (z := qz q) y3.1.2.1 (kdf hq), show xm (qc q) 4 i' = opc 31 from ck0.trans (show (43 : Int) = opc 31 from rfl), c1, Option.bind_some, wI_ok (x := x1 + 1) (by omega) (by omega)]
        exact ih (x1 + 1) mC2 mM2 i2 _ _ _ c2 ((rc.trans w2).trans y4) (fX.trans (y5.mono (Int.le_refl _) (by omega))) ((k.trans (gf.K (by omega))).trans y6) (by rw [y7.1, e20]; exact p20) y7.2.1 y7.2.2 (by omega) (by omega) (by omega) (by omega) ((F1.trans yf).trans c3)
      · rw [if_pos y1]
        exact wp_some (LV.bad (y2.after (rc.trans w2) fX) (F1.trans yf))
    · rw [if_neg ck0]
      by_cases ck1 : kdq q i' = 45
      · obtain ⟨r, er, g, gf⟩ := go_s45 hq.1 hq.2.1 hq.2.2.1 o0 o1 D0 (by omega) P0 (by omega) hx hd (by omega) (by omega) ck1 (by rw [p20]; exact hph)
        have e23 : r.2 23 (D - 1) = mM' 23 (D - 1) := (gf.2.2.2.2.1 (D - 1) (by omega)).2.2.2.2
        have e20 : r.2 20 (D - 1) = mM' 20 (D - 1) := (gf.2.2.2.2.1 (D - 1) (by omega)).2.1
        have e21 : r.2 21 (D - 1) = mM' 21 (D - 1) := (gf.2.2.2.2.1 (D - 1) (by omega)).2.2.1
        have lt := hx.1.lt hq.1 (by show kdq q i' ≠ 256; omega) (by show kdq q i' ≠ 257; omega)
        obtain ⟨w1, w2⟩ := pre_op (need2 := 1) hq h er g o0 o1 D0 D1 P0 (by omega) (by omega) (by rw [k.2.2]; exact B0) (by rw [k.2.2]; exact B1) lt e23
        rw [if_pos ck1]
        unfold Pa_sum_b37
        rw [h.1.1.2, wI_ok (x := i' + 1) (by omega) (by omega), pf_ok]
        have bc : BC 6 (P + 1) D r.2 := Or.inr (by rw [show P + 1 - 1 = P from by omega, g.2.2]; decide)
        refine wp_bm (H _ _ _ _ _ _ _ w1 bc ⟨by rw [e20, p20]; exact hph, fun _ => Or.inl (by rw [e21]; exact p21)⟩) (fun a ⟨y, yf⟩ => ?_)
        have F1 : FCx q mC0 (upm mC 1 7 (i' + 1)) := f.put1 hq (by decide)
        have fX : FX (qb q) (ql q) (D - 1) P mM r.2 := x.trans (gf.mono (by omega) (Int.le_refl _))
        rcases y with ⟨y1, i2, G2, Eb2, M2, mM2, y2, y3, y4, y5, y6, y7⟩ | ⟨y1, y2⟩
        · obtain ⟨mC2, c1, c2, c3⟩ := push_op (tr := false) (rk' := 5) (need' := 2) (op := 32) hq y3 (by rw [y5.2.2.2.2.2 P (by omega)]; exact g.2.2) (by decide) rfl (by decide) (by decide) (by decide) P0 D0 (by omega)
          rw [if_neg (by omega), mro_ok (z := qz q) y3.1.2.1 (kdf hq), show xm (qc q) 4 i' = opc 32 from ck1.trans (show (45 : Int) = opc 32 from rfl), c1, Option.bind_some, wI_ok (x := x1 + 1) (by omega) (by omega)]
          exact ih (x1 + 1) mC2 mM2 i2 _ _ _ c2 ((rc.trans w2).trans y4) (fX.trans (y5.mono (Int.le_refl _) (by omega))) ((k.trans (gf.K (by omega))).trans y6) (by rw [y7.1, e20]; exact p20) y7.2.1 y7.2.2 (by omega) (by omega) (by omega) (by omega) ((F1.trans yf).trans c3)
        · rw [if_pos y1]
          exact wp_some (LV.bad (y2.after (rc.trans w2) fX) (F1.trans yf))
      · rw [if_neg ck1]
        exact wp_some ⟨Or.inl ⟨rfl, i', G, Eb, M, mM', hii, h, rc, x, k, ⟨p20, p21, ⟨ck0, ck1, ptk.1, ptk.2.1, ptk.2.2⟩⟩⟩, f⟩
theorem sum_S {q : zQ} {rcF : Nat → Int → zM → Option (Int × zM)} {o : Int} (hq : QH q) (H : ProdS q (rcF 1 0) o) : SumS q (Pa_sum rcF) o := by
  intro mC mM i G T P D hP hB hA
  obtain ⟨h1, h2, h3, h4, h5, h6, h7, h8, h9, h10⟩ := id hP
  unfold Pa_sum
  refine wp_bm (H _ _ _ _ _ _ _ (hP.mono (by decide)) (hB.mono (by decide)) hA) (fun a ⟨y, yf⟩ => ?_)
  rcases y with ⟨y1, i2, G2, Eb2, M2, mM2, y2, y3, y4, y5, y6, y7⟩ | ⟨y1, y2⟩
  · rw [if_neg (by omega)]
    have i0 := h2.1.1.1
    exact sum_L hq H h4.1 h4.2 h5.1 h5.2 h6.1 h6.2 h7 h9 h10 hB hA.1 1000000 0 a.2 mM2 i2 G2 Eb2 M2 (y3.mono (by decide) (by decide)) y4 y5 y6 y7.1 y7.2.1 y7.2.2 y2 (by decide) (by omega) (by omega) yf
  · rw [if_pos y1]
    exact wp_some (LV.bad y2 yf)
theorem both_L {q : zQ} {rcF : Nat → Int → zM → Option (Int × zM)} {o P D i : Int} {T : List Bool} {mC0 mM : zM} (hq : QH q) (H : FactS q (rcF 7 0) o) (o0 : 0 ≤ o) (o1 : o ≤ 7) (D0 : 1 ≤ D) (D1 : D ≤ o + 1) (P0 : 0 ≤ P) (P1 : P + 4 + 5 * (7 - o) ≤ 40) (T1 : (T.length : Int) + 4 + 5 * (7 - o) ≤ 40) (B0 : 0 ≤ mM 23 (D - 1)) (B1 : mM 23 (D - 1) ≤ P) (hb : BC 2 P D mM) (hT : isT (mM 19 (D - 1))) : ∀ (n : Nat) (x1 : Int) (mC mM' : zM) (i' : Int) (G : List zC) (Eb : List Int) (M : List zC), GD q true 2 4 o T P D i' G Eb M mC mM' → RC mM mM' → FX (qb q) (ql q) (D - 1) P mM mM' → KF D mM mM' → mM' 20 (D - 1) ≠ 0 → (mM' 20 (D - 1) < 2 → nar q i') → i < i' → 0 ≤ x1 → x1 + 1 ≤ i' → 1602 - i' < (n : Int) → FCx q mC0 mC → wp (Pa_both_L11 rcF n x1 mC) (LV q true 2 4 (Xte q D (nAnd q)) i o T P D mC0 mM) := by
  intro n
  induction n with
  | zero =>
    intro x1 mC mM' i' G Eb M h rc x k p20 p21 hii x0 x1i hn f
    have := (h.2.1.1.i0 hq.1).2.1
    omega
  | succ n ih =>
    intro x1 mC mM' i' G Eb M h rc x k p20 p21 hii x0 x1i hn f
    have hx := h.2.1
    have bi := hx.1.i0 hq.1
    have hl := h.len
    have hN := hx.1.N hq.1
    have hroom := h.2.2.2.2.2.2.1
    have hEb := h.2.2.2.2.2.2.2
    have hd := h.HD (least := 2) (Int.le_refl _) (by rw [k.2.2]; exact B0) (by rw [k.2.2]; exact B1) (hb.keep x k)
    show wp (Pa_both_B11 _ _ _ _) _
    unfold Pa_both_B11
    rw [if_pos (show x1 < 1600 by omega), kind_ok hq.1 h.1.1 hx.1, Option.bind_some]
    by_cases ck0 : kdq q i' = 325
    · obtain ⟨r, er, g, gf, g20, g21, gk⟩ := go_and hq.1 hq.2.1 hq.2.2.1 o0 o1 D0 (by omega) P0 (by omega) hx hd (by omega) (by omega) ck0 (by rw [k.1]; exact hT) p20
      have e23 : r.2 23 (D - 1) = mM' 23 (D - 1) := by rw [gk 23 (by omega)]
      have e19 : r.2 19 (D - 1) = mM' 19 (D - 1) := by rw [gk 19 (by omega)]
      have lt := hx.1.lt hq.1 (by show kdq q i' ≠ 256; omega) (by show kdq q i' ≠ 257; omega)
      obtain ⟨w1, w2⟩ := pre_op (need2 := 3) hq h er g o0 o1 D0 D1 P0 (by omega) (by omega) (by rw [k.2.2]; exact B0) (by rw [k.2.2]; exact B1) lt e23
      rw [if_pos ck0, h.1.1.2, wI_ok (x := i' + 1) (by omega) (by omega), pf_ok]
      have bc : BC 4 (P + 1) D r.2 := Or.inr (by rw [show P + 1 - 1 = P from by omega, g.2.2]; decide)
      refine wp_bm (H _ _ _ _ _ _ _ w1 bc ⟨by rw [e19, k.1]; exact hT, g20, by rw [g21]; decide⟩) (fun a ⟨y, yf⟩ => ?_)
      have F1 : FCx q mC0 (upm mC 1 7 (i' + 1)) := f.put1 hq (by decide)
      have fX : FX (qb q) (ql q) (D - 1) P mM r.2 := x.trans gf
      have kk : KF D mM' r.2 := ⟨e19, by rw [gk 22 (by omega)], e23⟩
      rcases y with ⟨y1, i2, G2, Eb2, M2, mM2, y2, y3, y4, y5, y6, y7⟩ | ⟨y1, y2⟩
      · obtain ⟨mC2, c1, c2, c3⟩ := push_op (tr := true) (rk' := 2) (need' := 4) (op := 41) hq y3 (by rw [y5.2.2.2.2.2 P (by omega)]; exact g.2.2) (by decide) rfl (by decide) (by decide) (by decide) P0 D0 (by omega)
        rw [if_neg (by omega), mro_ok (z := qz q) y3.1.2.1 (kdf hq), show (7 : Int) = opc 41 from rfl, c1, Option.bind_some, wI_ok (x := x1 + 1) (by omega) (by omega)]
        exact ih (x1 + 1) mC2 mM2 i2 _ _ _ c2 ((rc.trans w2).trans y4) (fX.trans (y5.mono (Int.le_refl _) (by omega))) ((k.trans kk).trans y6) y7.1 y7.2.1 (by omega) (by omega) (by omega) (by omega) ((F1.trans yf).trans c3)
      · rw [if_pos y1]
        exact wp_some (LV.bad (y2.after (rc.trans w2) fX) (F1.trans yf))
    · rw [if_neg ck0]
      exact wp_some ⟨Or.inl ⟨rfl, i', G, Eb, M, mM', hii, h, rc, x, k, ⟨p20, p21, ck0⟩⟩, f⟩
theorem both_S {q : zQ} {rcF : Nat → Int → zM → Option (Int × zM)} {o : Int} (hq : QH q) (H : FactS q (rcF 7 0) o) : BothS q (Pa_both rcF) o := by
  intro mC mM i G T P D hP hB hA
  obtain ⟨h1, h2, h3, h4, h5, h6, h7, h8, h9, h10⟩ := id hP
  unfold Pa_both
  refine wp_bm (H _ _ _ _ _ _ _ (hP.mono (by decide)) (hB.mono (by decide)) hA) (fun a ⟨y, yf⟩ => ?_)
  rcases y with ⟨y1, i2, G2, Eb2, M2, mM2, y2, y3, y4, y5, y6, y7⟩ | ⟨y1, y2⟩
  · rw [if_neg (by omega)]
    have i0 := h2.1.1.1
    exact both_L hq H h4.1 h4.2 h5.1 h5.2 h6.1 h6.2 h7 h9 h10 hB hA.1 1000000 0 a.2 mM2 i2 G2 Eb2 M2 (y3.mono (by decide) (by decide)) y4 y5 y6 y7.1 y7.2.1 y2 (by decide) (by omega) (by omega) yf
  · rw [if_pos y1]
    exact wp_some (LV.bad y2 yf)
theorem test_L {q : zQ} {rcF : Nat → Int → zM → Option (Int × zM)} {o P D i : Int} {T : List Bool} {mC0 mM : zM} (hq : QH q) (H : BothS q (rcF 6 0) o) (o0 : 0 ≤ o) (o1 : o ≤ 7) (D0 : 1 ≤ D) (D1 : D ≤ o + 1) (P0 : 0 ≤ P) (P1 : P + 5 + 5 * (7 - o) ≤ 40) (T1 : (T.length : Int) + 5 + 5 * (7 - o) ≤ 40) (B0 : 0 ≤ mM 23 (D - 1)) (B1 : mM 23 (D - 1) ≤ P) (hb : BC 1 P D mM) (hT : isT (mM 19 (D - 1))) : ∀ (n : Nat) (x1 : Int) (mC mM' : zM) (i' : Int) (G : List zC) (Eb : List Int) (M : List zC), GD q true 1 5 o T P D i' G Eb M mC mM' → RC mM mM' → FX (qb q) (ql q) (D - 1) P mM mM' → KF D mM mM' → mM' 20 (D - 1) ≠ 0 → (mM' 20 (D - 1) < 2 → nar q i') → nAnd q i' → i < i' → 0 ≤ x1 → x1 + 1 ≤ i' → 1602 - i' < (n : Int) → FCx q mC0 mC → wp (Pa_test_L11 rcF n x1 mC) (LV q true 1 5 (Xte q D (nAO q)) i o T P D mC0 mM) := by
  intro n
  induction n with
  | zero =>
    intro x1 mC mM' i' G Eb M h rc x k p20 p21 ptk hii x0 x1i hn f
    have := (h.2.1.1.i0 hq.1).2.1
    omega
  | succ n ih =>
    intro x1 mC mM' i' G Eb M h rc x k p20 p21 ptk hii x0 x1i hn f
    have hx := h.2.1
    have bi := hx.1.i0 hq.1
    have hl := h.len
    have hN := hx.1.N hq.1
    have hroom := h.2.2.2.2.2.2.1
    have hEb := h.2.2.2.2.2.2.2
    have hd := h.HD (least := 1) (Int.le_refl _) (by rw [k.2.2]; exact B0) (by rw [k.2.2]; exact B1) (hb.keep x k)
    show wp (Pa_test_B11 _ _ _ _) _
    unfold Pa_test_B11
    rw [if_pos (show x1 < 1600 by omega), kind_ok hq.1 h.1.1 hx.1, Option.bind_some]
    by_cases ck0 : kdq q i' = 324
    · obtain ⟨r, er, g, gf, g20, g21, gk⟩ := go_or hq.1 hq.2.1 hq.2.2.1 o0 o1 D0 (by omega) P0 (by omega) hx hd (by omega) (by omega) ck0 (by rw [k.1]; exact hT) p20
      have e23 : r.2 23 (D - 1) = mM' 23 (D - 1) := by rw [gk 23 (by omega)]
      have e19 : r.2 19 (D - 1) = mM' 19 (D - 1) := by rw [gk 19 (by omega)]
      have lt := hx.1.lt hq.1 (by show kdq q i' ≠ 256; omega) (by show kdq q i' ≠ 257; omega)
      obtain ⟨w1, w2⟩ := pre_op (need2 := 4) hq h er g o0 o1 D0 D1 P0 (by omega) (by omega) (by rw [k.2.2]; exact B0) (by rw [k.2.2]; exact B1) lt e23
      rw [if_pos ck0, h.1.1.2, wI_ok (x := i' + 1) (by omega) (by omega), pf_ok]
      have bc : BC 2 (P + 1) D r.2 := Or.inr (by rw [show P + 1 - 1 = P from by omega, g.2.2]; decide)
      refine wp_bm (H _ _ _ _ _ _ _ w1 bc ⟨by rw [e19, k.1]; exact hT, g20, by rw [g21]; decide⟩) (fun a ⟨y, yf⟩ => ?_)
      have F1 : FCx q mC0 (upm mC 1 7 (i' + 1)) := f.put1 hq (by decide)
      have fX : FX (qb q) (ql q) (D - 1) P mM r.2 := x.trans gf
      have kk : KF D mM' r.2 := ⟨e19, by rw [gk 22 (by omega)], e23⟩
      rcases y with ⟨y1, i2, G2, Eb2, M2, mM2, y2, y3, y4, y5, y6, y7⟩ | ⟨y1, y2⟩
      · obtain ⟨mC2, c1, c2, c3⟩ := push_op (tr := true) (rk' := 1) (need' := 5) (op := 42) hq y3 (by rw [y5.2.2.2.2.2 P (by omega)]; exact g.2.2) (by decide) rfl (by decide) (by decide) (by decide) P0 D0 (by omega)
        rw [if_neg (by omega), mro_ok (z := qz q) y3.1.2.1 (kdf hq), show (8 : Int) = opc 42 from rfl, c1, Option.bind_some, wI_ok (x := x1 + 1) (by omega) (by omega)]
        exact ih (x1 + 1) mC2 mM2 i2 _ _ _ c2 ((rc.trans w2).trans y4) (fX.trans (y5.mono (Int.le_refl _) (by omega))) ((k.trans kk).trans y6) y7.1 y7.2.1 y7.2.2 (by omega) (by omega) (by omega) (by omega) ((F1.trans yf).trans c3)
      · rw [if_pos y1]
        exact wp_some (LV.bad (y2.after (rc.trans w2) fX) (F1.trans yf))
    · rw [if_neg ck0]
      exact wp_some ⟨Or.inl ⟨rfl, i', G, Eb, M, mM', hii, h, rc, x, k, ⟨p20, p21, ⟨ck0, ptk⟩⟩⟩, f⟩
theorem test_S {q : zQ} {rcF : Nat → Int → zM → Option (Int × zM)} {o : Int} (hq : QH q) (H : BothS q (rcF 6 0) o) : TestS q (Pa_test rcF) o := by
  intro mC mM i G T P D hP hB hA
  obtain ⟨h1, h2, h3, h4, h5, h6, h7, h8, h9, h10⟩ := id hP
  unfold Pa_test
  refine wp_bm (H _ _ _ _ _ _ _ (hP.mono (by decide)) (hB.mono (by decide)) hA) (fun a ⟨y, yf⟩ => ?_)
  rcases y with ⟨y1, i2, G2, Eb2, M2, mM2, y2, y3, y4, y5, y6, y7⟩ | ⟨y1, y2⟩
  · rw [if_neg (by omega)]
    have i0 := h2.1.1.1
    exact test_L hq H h4.1 h4.2 h5.1 h5.2 h6.1 h6.2 h7 h9 h10 hB hA.1 1000000 0 a.2 mM2 i2 G2 Eb2 M2 (y3.mono (by decide) (by decide)) y4 y5 y6 y7.1 y7.2.1 y7.2.2 y2 (by decide) (by omega) (by omega) yf
  · rw [if_pos y1]
    exact wp_some (LV.bad y2 yf)
