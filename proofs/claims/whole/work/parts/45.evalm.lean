/-! the model's step -/
theorem held_ok {x : Int} : M_held x = some (clp x) := by
  unfold M_held clp
  by_cases h1 : 1000000 < x
  · rw [if_pos h1]; congr 1; omega
  · rw [if_neg h1]
    by_cases h2 : x < -1000000
    · rw [if_pos h2]; congr 1; omega
    · rw [if_neg h2]; congr 1; omega
theorem floor_ok {a b : Int} (ha : -1000000 ≤ a ∧ a ≤ 1000000) (hb : -1000000 ≤ b ∧ b ≤ 1000000) : M_floor a b = some (fdv a b) := by
  have ca : cI a := ⟨by omega, by omega⟩
  have cb : cI b := ⟨by omega, by omega⟩
  unfold M_floor fdv
  by_cases h : b = 0
  · rw [if_pos h, if_pos h]
  · rw [if_neg h, if_neg h, nz_ok h, nz_ok h, rmL_t ca cb, dvL_t ca cb]
    have e2 := (tdv_b a b).2
    unfold M_floor_b32 M_floor_b43
    by_cases w : a.tdiv b * b = a
    · rw [if_pos (by omega), if_neg (fun t => t.2 w)]
    · rw [if_neg (by omega)]
      by_cases q1 : a < 0 <;> by_cases q2 : b < 0
      · rw [if_pos q1, if_pos q2, if_pos rfl, if_neg (by omega)]
      · rw [if_pos q1, if_neg q2, if_neg (by omega), wL_ok (by omega) (by omega), if_pos ⟨by omega, w⟩]
      · rw [if_neg q1, if_pos q2, if_neg (by omega), wL_ok (by omega) (by omega), if_pos ⟨by omega, w⟩]
      · rw [if_neg q1, if_neg q2, if_pos rfl, if_neg (by omega)]
theorem two_ok {c s a b : Int} (h : bop c s) (ha : -1000000 ≤ a ∧ a ≤ 1000000) (hb : -1000000 ≤ b ∧ b ≤ 1000000) (ht : 41 ≤ s → (a = 0 ∨ a = 1) ∧ (b = 0 ∨ b = 1)) : M_two s a b = some (jn c a b) := by
  have m1 := mul_ab (a := 1000000) (b := 1000000) ha.1 ha.2 hb.1 hb.2
  have f1 := fdv_b (b := b) ha
  have m2 := mul_ab (a := 1000000) (b := 1000001) hb.1 hb.2 f1.1 (by omega : fdv a b ≤ 1000001)
  unfold M_two
  simp only [held_ok, lt_ok, floor_ok ha hb, Option.bind_some]
  rcases h with ⟨rfl, rfl⟩ | ⟨rfl, rfl⟩ | ⟨rfl, rfl⟩ | ⟨rfl, rfl⟩ | ⟨rfl, rfl⟩ | ⟨rfl, rfl⟩ | ⟨rfl, rfl⟩ | ⟨rfl, rfl⟩ | ⟨rfl, rfl⟩ | ⟨rfl, rfl⟩ | ⟨rfl, rfl⟩ | ⟨rfl, rfl⟩ <;> unfold jn <;> simp only [Int.reduceEq, ↓reduceIte]
  · split <;> (congr 1; omega)
  · split <;> (congr 1; omega)
  · obtain ⟨q1, q2⟩ := ht (by omega)
    rcases q1 with rfl | rfl <;> rcases q2 with rfl | rfl <;> decide +kernel
  · obtain ⟨q1, q2⟩ := ht (by omega)
    rcases q1 with rfl | rfl <;> rcases q2 with rfl | rfl <;> decide +kernel
  · rw [wL_ok (by omega) (by omega)]
  · rw [wL_ok (by omega) (by omega)]
  · rw [wL_ok (by omega) (by omega)]
  · split
    · rfl
    · rw [wL_ok (x := b * fdv a b) (by omega) (by omega), wL_ok (by omega) (by omega)]
  · split <;> rfl
  · split <;> rfl
  · split <;> rfl
theorem mev_step {Q : Int × zM → Prop} {rec : Int → Int → Int → zM → Option (Int × zM)} {x w bk : Int} {m : zM} {st : List Int} {T T' : List Bool} {c s v mx : Int} {sc : Int → Int} (hbk : m 0 13 = bk) (hb : bk = 0 ∨ bk = 1) (hw : w = 0 ∨ w = 1) (hst : stk (m 37) st) (ht : typ T st) (hT : tst s T = some T') (hc : crel c s v) (hx : s ≤ mx ∨ 30 ≤ s) (hmx : mx ≤ 9) (hl : T.length ≤ 41) (hl' : T'.length ≤ 41) (hx0 : 0 ≤ x) (he : 0 ≤ m 14 (2 * bk + w) ∧ m 14 (2 * bk + w) ≤ 1600) (hx1 : x < 1600 * bk + m 14 (2 * bk + w)) (h15 : m 15 x = s) (h16 : m 16 x = v) (hsc : ∀ i, 0 ≤ i → i < mx → m 38 (i + 1) = sc i) (hk : ∀ m', stk (m' 37) (cst sc c st) → eqO [37] m m' → wp (rec w ((cst sc c st).length : Int) (x + 1) m') Q) : wp (M_reckons_B25 rec w (st.length : Int) x m) Q := by
  have hlen := typ_len ht
  have fr : ∀ i v, eqO [37] m (upm m 37 i v) := fun i v => eqO.refl.put (by simp)
  unfold M_reckons_B25
  simp (disch := omega) only [hbk, wI_ok, rd_ok]
  rw [if_pos hx1, h15]
  rcases crel_cases hc with ⟨h1, h2, h3, h4, h5, h6⟩ | ⟨h1, h2, h3, h4, h5, h6⟩ | ⟨h1, h2⟩ | ⟨h1, h2⟩ | h
  · have e : cst sc c st = (c / 256) :: st := by unfold cst; rw [if_pos h1]
    have el : ((cst sc c st).length : Int) = (st.length : Int) + 1 := by rw [e]; simp
    have hk2 : ∀ u, u = c / 256 → wp (rec w ((st.length : Int) + 1) (x + 1) (upm m 37 (st.length : Int) u)) Q := by
      intro u hu
      rw [← el]
      refine hk _ ?_ (fr _ _)
      rw [upm_eq, hu, e]
      exact ⟨sets_eq, stk_set (by omega) hst⟩
    rw [if_neg (by omega)]
    rcases h6 with ⟨q, q2⟩ | ⟨q, q2⟩
    · rw [if_pos q, wr_ok (by omega) (by omega)]
      exact hk2 _ (by rw [h16, q2])
    · rw [if_neg (by omega), if_pos q, wr_ok (by omega) (by omega)]
      exact hk2 _ q2.symm
  · have e : cst sc c st = sc (c / 256) :: st := by unfold cst; rw [if_neg (by omega), if_pos h1]
    have el : ((cst sc c st).length : Int) = (st.length : Int) + 1 := by rw [e]; simp
    rw [if_neg (by omega), if_neg (by omega), if_neg (by omega), rd_ok (by omega) (by omega), wr_ok (by omega) (by omega), h5, hsc _ h4 (by omega), ← el]
    refine hk _ ?_ (fr _ _)
    rw [e, upm_eq]
    exact ⟨sets_eq, stk_set (by omega) hst⟩
  · subst h1 h2
    obtain ⟨R, rfl, rfl⟩ := tst_not hT
    obtain ⟨v, R2, rfl, o1, o2⟩ := typ_cons ht
    have el0 : ((v :: R2).length : Int) = (R2.length : Int) + 1 := by simp
    have el : ((cst sc 6 (v :: R2)).length : Int) = (R2.length : Int) + 1 := by
      show (((1 - v) :: R2).length : Int) = _
      simp
    have := o1.2.2 rfl
    simp only [List.length_cons] at hlen hl
    rw [el] at hk
    rw [el0]
    simp (disch := omega) only [↓reduceIte, wI_ok, wL_ok, rd_ok, wr_ok, Int.reduceLT, Int.add_sub_cancel, hst.1]
    refine hk _ ?_ (fr _ _)
    rw [upm_eq]
    exact ⟨sets_eq, stk_set (by omega) hst.2⟩
  · subst h1 h2
    obtain ⟨R, rfl, rfl⟩ := tst_if hT
    obtain ⟨z, R2, rfl, o1, o2⟩ := typ_cons ht
    obtain ⟨y, R3, rfl, o3, o4⟩ := typ_cons o2
    obtain ⟨w', R4, rfl, o5, o6⟩ := typ_cons o4
    obtain ⟨s1, s2, s3, s4⟩ := hst
    simp only [List.length_cons] at hlen hl
    have el0 : ((z :: y :: w' :: R4).length : Int) = (R4.length : Int) + 3 := by simp; omega
    have el : ((cst sc 5 (z :: y :: w' :: R4)).length : Int) = (R4.length : Int) + 1 := by
      show (((if w' = 0 then z else y) :: R4).length : Int) = _
      simp
    have z1 : m 37 ((R4.length : Int) + 2) = z := by rw [← s1]; congr 1
    have z2 : m 37 ((R4.length : Int) + 1) = y := by rw [← s2]; congr 1
    have z3 : m 37 (R4.length : Int) = w' := s3
    have a1 : (R4.length : Int) + 3 + -2 = (R4.length : Int) + 1 := by omega
    have a2 : (R4.length : Int) + 1 + 1 = (R4.length : Int) + 2 := by omega
    rw [el] at hk
    rw [el0]
    simp (disch := omega) only [↓reduceIte, wI_ok, rd_ok, wr_ok, Int.reduceLT, Int.reduceEq, a1, a2, Int.add_sub_cancel, z1, z2, z3]
    have hk2 : ∀ u, u = (if w' = 0 then z else y) → wp (rec w ((R4.length : Int) + 1) (x + 1) (upm m 37 (R4.length : Int) u)) Q := by
      intro u hu
      refine hk _ ?_ (fr _ _)
      rw [upm_eq, hu]
      exact ⟨sets_eq, stk_set (by omega) s4⟩
    have hb2 := o5.2.2 rfl
    by_cases q : w' = 0
    · rw [if_neg (by omega)]
      exact hk2 _ (by rw [if_pos q])
    · rw [if_pos (by omega)]
      exact hk2 _ (by rw [if_neg q])
  · clear hx hb hw
    have hs := (bop_f h).2.2
    obtain ⟨t1, t2, t3, R, rfl, rfl, q1, q2, q3⟩ := tst_two hs.1 hs.2 hT
    obtain ⟨b, R2, rfl, o1, o2⟩ := typ_cons ht
    obtain ⟨a, R3, rfl, o3, o4⟩ := typ_cons o2
    obtain ⟨s1, s2, s3⟩ := hst
    simp only [List.length_cons] at hlen hl
    have el0 : ((b :: a :: R3).length : Int) = (R3.length : Int) + 2 := by simp; omega
    rw [cst_two h] at hk
    have el : ((jn c a b :: R3).length : Int) = (R3.length : Int) + 1 := by simp
    have z1 : m 37 ((R3.length : Int) + 1) = b := by rw [← s1]; congr 1
    have z2 : m 37 (R3.length : Int) = a := s2
    have a1 : (R3.length : Int) + 2 + -1 = (R3.length : Int) + 1 := by omega
    have ej : M_two s a b = some (jn c a b) := two_ok h ⟨o3.1, o3.2.1⟩ ⟨o1.1, o1.2.1⟩ (fun q => ⟨o3.2.2 (q3 q).1, o1.2.2 (q3 q).2⟩)
    rw [el] at hk
    rw [el0, if_pos (by omega), if_neg (by omega), if_neg (by omega)]
    simp (disch := omega) only [wI_ok, rd_ok, wr_ok, a1, Int.add_sub_cancel, z1, z2, ej, Option.bind_some]
    refine hk _ ?_ (fr _ _)
    rw [upm_eq]
    exact ⟨sets_eq, stk_set (by omega) s3⟩
/-- both come to the same end -/
theorem FR.types {len : Int} {cd : Int → Int} {mM : zM} {b w : Int} {t : Bool} {mx : Int} {sc : Int → Int} (h : FR len cd mM b w t mx) (hp : 0 < len) (hsc : ∀ i, 0 ≤ i → i < mx → -1000000 ≤ sc i ∧ sc i ≤ 1000000) : ∀ j : Nat, (j : Int) ≤ len → ∃ T, tyS (fun j => mM 15 (1600 * b + mM 13 (2 * b + w) + j)) j = some T ∧ typ T (evS cd sc j) ∧ T.length ≤ 41 := by
  rcases h with ⟨h, _⟩ | ⟨h1, h2, h3, h4, h5, h6, h7⟩
  · omega
  have key : ∀ j : Nat, (j : Int) ≤ len → ∃ T, tyS (fun j => mM 15 (1600 * b + mM 13 (2 * b + w) + j)) j = some T := by
    have go : ∀ d j : Nat, j + d = len.toNat → ∃ T, tyS (fun j => mM 15 (1600 * b + mM 13 (2 * b + w) + j)) j = some T := by
      intro d
      induction d with
      | zero => intro j hj; rw [show j = len.toNat from by omega]; exact ⟨_, h6⟩
      | succ d ih =>
        intro j hj
        obtain ⟨T, hT⟩ := ih (j + 1) (by omega)
        cases hq : tyS (fun j => mM 15 (1600 * b + mM 13 (2 * b + w) + j)) j with
        | none =>
          have : tyS (fun j => mM 15 (1600 * b + mM 13 (2 * b + w) + j)) (j + 1) = none := by
            show (tyS _ j).bind _ = none
            rw [hq]; rfl
          rw [this] at hT; cases hT
        | some T' => exact ⟨T', rfl⟩
    intro j hj
    exact go (len.toNat - j) j (by omega)
  intro j
  induction j with
  | zero => intro _; exact ⟨[], rfl, trivial, by simp⟩
  | succ j ih =>
    intro hj
    obtain ⟨T, hT, ht, _⟩ := ih (by omega)
    obtain ⟨T', hT'⟩ := key (j + 1) hj
    have e : tst (mM 15 (1600 * b + mM 13 (2 * b + w) + (j : Int))) T = some T' := by
      have : (tyS (fun j => mM 15 (1600 * b + mM 13 (2 * b + w) + j)) j).bind (tst (mM 15 (1600 * b + mM 13 (2 * b + w) + (j : Int)))) = some T' := hT'
      rw [hT] at this
      exact this
    obtain ⟨q1, q2⟩ := h5 j (by omega) (by omega)
    exact ⟨T', hT', typ_step q1 q2 e ht hsc, h7 (j + 1) T' hj hT'⟩
theorem FR.step {len : Int} {cd : Int → Int} {mM : zM} {b w : Int} {t : Bool} {mx : Int} {sc : Int → Int} (h : FR len cd mM b w t mx) (hp : 0 < len) (hsc : ∀ i, 0 ≤ i → i < mx → -1000000 ≤ sc i ∧ sc i ≤ 1000000) (j : Nat) (hj : (j : Int) < len) : ∃ T T', typ T (evS cd sc j) ∧ tst (mM 15 (1600 * b + mM 13 (2 * b + w) + (j : Int))) T = some T' ∧ T.length ≤ 41 ∧ T'.length ≤ 41 := by
  obtain ⟨T, e1, e2, e3⟩ := h.types hp hsc j (by omega)
  obtain ⟨T', f1, f2, f3⟩ := h.types hp hsc (j + 1) (by omega)
  have : (tyS (fun j => mM 15 (1600 * b + mM 13 (2 * b + w) + j)) j).bind (tst (mM 15 (1600 * b + mM 13 (2 * b + w) + (j : Int)))) = some T' := f1
  rw [e1] at this
  exact ⟨T, T', e2, this, e3, f3⟩
/-- what a formula comes to -/
def vlF (len : Int) (cd sc : Int → Int) : Int := (evS cd sc len.toNat).headD 0
theorem FR.one {len : Int} {cd : Int → Int} {mM : zM} {b w : Int} {t : Bool} {mx : Int} {sc : Int → Int} (h : FR len cd mM b w t mx) (hp : 0 < len) (hsc : ∀ i, 0 ≤ i → i < mx → -1000000 ≤ sc i ∧ sc i ≤ 1000000) : evS cd sc len.toNat = [vlF len cd sc] ∧ okv t (vlF len cd sc) := by
  obtain ⟨T, e1, e2, e3⟩ := h.types hp hsc len.toNat (by omega)
  rcases h with ⟨h, _⟩ | ⟨h1, h2, h3, h4, h5, h6, h7⟩
  · omega
  rw [h6] at e1
  cases e1
  obtain ⟨v, R, q1, q2, q3⟩ := typ_cons e2
  cases R with
  | cons a R => exact q3.elim
  | nil =>
    unfold vlF
    rw [q1]
    exact ⟨rfl, q2⟩
theorem wp_valueOf {len : Int} {cd : Int → Int} {mM : zM} {b w : Int} {t : Bool} {mx : Int} {sc : Int → Int} {o : Nat} {m : zM} (h : FR len cd mM b w t mx) (hp : 0 < len) (hlen : len ≤ 1600) (hmx : mx ≤ 9) (hb : ∀ i, 0 ≤ i → i < mx → -1000000 ≤ sc i ∧ sc i ≤ 1000000) (h1 : m o 1 = len) (h2 : m (o + 1) = cd) (hsc : ∀ i, 0 ≤ i → i < mx → m 29 i = sc i) (ho : o + 2 ≠ 29) : wp (Fo_valueOf o 29 9 m) (fun r => r.1 = vlF len cd sc ∧ eqO [o + 2] m r.2) := by
  have L : ∀ (d n j : Nat) (m' : zM), (j : Int) + (d : Int) = len → d < n → stk (m' (o + 2)) (evS cd sc j) → eqO [o + 2] m m' → wp (Fo_valueOf_L4 (fun o0_1 x2_1 m2 => (if 0 < x2_1 then
  rd (o0_1 + 2) 64 (wI (x2_1 - 1)) m2 (fun y4 =>
  some (y4, m2))
  else some (0, m2))) n o 29 9 ((evS cd sc j).length : Int) (j : Int) m') (fun r => r.1 = vlF len cd sc ∧ eqO [o + 2] m r.2) := by
    intro d
    induction d with
    | zero =>
      intro n j m' hj hn hs hf
      obtain ⟨n, rfl⟩ : ∃ k, n = k + 1 := ⟨n - 1, by omega⟩
      show wp (Fo_valueOf_B4 _ _ _ _ _ _ _ _) _
      have e1 : m' o 1 = len := by rw [hf o (by simp)]; exact h1
      have hj2 : j = len.toNat := by omega
      have e2 := (h.one hp hb).1
      unfold Fo_valueOf_B4
      rw [e1, if_neg (by omega)]
      subst hj2
      rw [e2] at hs ⊢
      rw [show (([vlF len cd sc] : List Int).length : Int) = 1 from rfl]
      show wp (if 0 < (1 : Int) then rd (o + 2) 64 (wI (1 - 1)) m' (fun y4 => some (y4, m')) else some (0, m')) _
      rw [if_pos (by omega), wI_ok (by omega) (by omega), rd_ok (by omega) (by omega)]
      refine wp_some ⟨?_, hf⟩
      exact hs.1
    | succ d ih =>
      intro n j m' hj hn hs hf
      obtain ⟨n, rfl⟩ : ∃ k, n = k + 1 := ⟨n - 1, by omega⟩
      show wp (Fo_valueOf_B4 _ _ _ _ _ _ _ _) _
      obtain ⟨T, T', q1, q2, q3, q4⟩ := h.step hp hb j (by omega)
      have hh := h
      rcases hh with ⟨hh, _⟩ | ⟨g1, g2, g3, g4, g5, g6, g7⟩
      · omega
      obtain ⟨g5, g8⟩ := g5 j (by omega) (by omega)
      have e1 : m' o 1 = len := by rw [hf o (by simp)]; exact h1
      have e2 : m' (o + 1) = cd := by rw [hf (o + 1) (by simp)]; exact h2
      have e3 : m' 29 = m 29 := hf 29 (by simp; omega)
      refine cev_step (sc := sc) hs q1 q2 g5 g8 hmx q3 q4 (by omega) (by omega) (by omega) (by rw [e2]) (by rw [e3]; exact hsc) (fun m2 k1 k2 => ?_)
      exact ih n (j + 1) m2 (by omega) (by omega) k1 (hf.trans k2)
  exact L len.toNat 1000000 0 m (by omega) (by omega) trivial eqO.refl
theorem wp_reckons {len : Int} {cd : Int → Int} {b w : Int} {t : Bool} {mx : Int} {sc : Int → Int} {m : zM} (h : FR len cd m b w t mx) (hp : 0 < len) (hmx : mx ≤ 9) (hbb : b = 0 ∨ b = 1) (hw : w = 0 ∨ w = 1) (hb : ∀ i, 0 ≤ i → i < mx → -1000000 ≤ sc i ∧ sc i ≤ 1000000) (h1 : m 0 13 = b) (hsc : ∀ i, 0 ≤ i → i < mx → m 38 (i + 1) = sc i) : wp (M_reckons w m) (fun r => r.1 = vlF len cd sc ∧ eqO [37] m r.2) := by
  have hh := h
  rcases hh with ⟨hh, _⟩ | ⟨g1, g2, g3, g4, g5, g6, g7⟩
  · omega
  have L : ∀ (d n j : Nat) (m' : zM), (j : Int) + (d : Int) = len → d < n → stk (m' 37) (evS cd sc j) → eqO [37] m m' → wp (M_reckons_L25 n w ((evS cd sc j).length : Int) (1600 * b + m 13 (2 * b + w) + (j : Int)) m') (fun r => r.1 = vlF len cd sc ∧ eqO [37] m r.2) := by
    intro d
    induction d with
    | zero =>
      intro n j m' hj hn hs hf
      obtain ⟨n, rfl⟩ : ∃ k, n = k + 1 := ⟨n - 1, by omega⟩
      show wp (M_reckons_B25 _ _ _ _ _) _
      have e0 : m' 0 13 = b := by rw [hf 0 (by simp)]; exact h1
      have e1 : m' 14 = m 14 := hf 14 (by simp)
      have hj2 : j = len.toNat := by omega
      have e2 := (h.one hp hb).1
      unfold M_reckons_B25
      simp (disch := omega) only [e0, e1, wI_ok, rd_ok]
      rw [if_neg (by omega)]
      subst hj2
      rw [e2] at hs
      exact wp_some ⟨hs.1, hf⟩
    | succ d ih =>
      intro n j m' hj hn hs hf
      obtain ⟨n, rfl⟩ : ∃ k, n = k + 1 := ⟨n - 1, by omega⟩
      show wp (M_reckons_B25 _ _ _ _ _) _
      obtain ⟨T, T', q1, q2, q3, q4⟩ := h.step hp hb j (by omega)
      obtain ⟨g5, g8⟩ := g5 j (by omega) (by omega)
      have e0 : m' 0 13 = b := by rw [hf 0 (by simp)]; exact h1
      have e1 : m' 14 = m 14 := hf 14 (by simp)
      have e2 : m' 15 = m 15 := hf 15 (by simp)
      have e3 : m' 16 = m 16 := hf 16 (by simp)
      have e4 : m' 38 = m 38 := hf 38 (by simp)
      refine mev_step (sc := sc) e0 hbb hw hs q1 q2 g5 g8 hmx q3 q4 (by omega) (by rw [e1]; omega) (by rw [e1]; omega) (by rw [e2]) (by rw [e3]) (by rw [e4]; exact hsc) (fun m2 k1 k2 => ?_)
      have := ih n (j + 1) m2 (by omega) (by omega) k1 (hf.trans k2)
      rw [show 1600 * b + m 13 (2 * b + w) + ((j + 1 : Nat) : Int) = 1600 * b + m 13 (2 * b + w) + (j : Int) + 1 from by omega] at this
      exact this
  unfold M_reckons
  simp (disch := omega) only [h1, wI_ok, rd_ok, lt_ok]
  have := L len.toNat 1000000 0 m (by omega) (by omega) trivial eqO.refl
  rw [show 1600 * b + m 13 (2 * b + w) + ((0 : Nat) : Int) = 1600 * b + m 13 (2 * b + w) from by omega] at this
  exact this
