/-! the class's step -/
theorem cev_0 {Q : Int × zM → Prop} {k : Nat → Int → zM → Option (Int × zM)} {rec : Nat → Nat → Nat → Int → Int → zM → Option (Int × zM)} {o : Nat} {x : Int} {m : zM} {sc : Int → Int} {st : List Int} {c : Int} {u : Int} (hl : st.length ≤ 41) (hx0 : 0 ≤ x) (hx1 : x < m o 1) (hx2 : m o 1 ≤ 1600) (hcd : m (o + 1) x = c) (hc0 : 0 ≤ c) (hc1 : c < 2560000) (hop : Fo_operandsOf (c % 256) = some 0) (hp : Fo_pushed (c % 256) (c / 256) 29 9 m = some u) (hst : stk (m (o + 2)) st) (hk : ∀ m', stk (m' (o + 2)) (u :: st) → eqO [o + 2] m m' → wp (rec o 29 9 ((st.length : Int) + 1) (x + 1) m') Q) : wp (Fo_valueOf_B4 k rec o 29 9 (st.length : Int) x m) Q := by
  have e8 := sr8 hc0 (by omega)
  unfold Fo_valueOf_B4
  rw [if_pos hx1, rd_ok hx0 (by omega), hcd, an255m hc0 (by omega), hop, Option.bind_some, lt_ok, wI_ok (x := (st.length : Int) - 0) (by omega) (by omega), if_neg (by omega), if_pos (by omega), if_pos rfl, rd_ok hx0 (by omega), hcd, e8, hp, Option.bind_some, wr_ok (by omega) (by omega), lt_ok, Int.sub_zero, wI_ok (x := (st.length : Int) + 1) (by omega) (by omega), wI_ok (x := x + 1) (by omega) (by omega)]
  refine hk _ ?_ (eqO.refl.put (by simp))
  rw [upm_eq]
  exact ⟨sets_eq, stk_set (by omega) hst⟩
theorem cev_1 {Q : Int × zM → Prop} {k : Nat → Int → zM → Option (Int × zM)} {rec : Nat → Nat → Nat → Int → Int → zM → Option (Int × zM)} {o : Nat} {x : Int} {m : zM} {R : List Int} {a : Int} (hl : R.length ≤ 40) (hx0 : 0 ≤ x) (hx1 : x < m o 1) (hx2 : m o 1 ≤ 1600) (hcd : m (o + 1) x = 6) (ha : a = 0 ∨ a = 1) (hst : stk (m (o + 2)) (a :: R)) (hk : ∀ m', stk (m' (o + 2)) ((1 - a) :: R) → eqO [o + 2] m m' → wp (rec o 29 9 ((R.length : Int) + 1) (x + 1) m') Q) : wp (Fo_valueOf_B4 k rec o 29 9 ((R.length : Int) + 1) x m) Q := by
  have ha2 : 0 ≤ 1 - a ∧ 1 - a ≤ 1 := by omega
  clear ha
  have e0 : (R.length : Int) + 1 - 1 = (R.length : Int) := by omega
  unfold Fo_valueOf_B4
  rw [if_pos hx1, rd_ok hx0 (by omega), hcd, show anI 6 255 = 6 from by decide +kernel, show Fo_operandsOf 6 = some 1 from by decide +kernel, Option.bind_some, lt_ok, e0, wI_ok (x := (R.length : Int)) (by omega) (by omega), if_neg (by omega), if_pos (by omega), if_neg (by decide), if_pos rfl, rd_ok (by omega) (by omega), hst.1, wr_ok (by omega) (by omega), lt_ok, wI_ok (x := 1 - a) (by omega) (by omega), wI_ok (x := (R.length : Int) + 1) (by omega) (by omega), wI_ok (x := x + 1) (by omega) (by omega)]
  refine hk _ ?_ (eqO.refl.put (by simp))
  rw [upm_eq]
  exact ⟨sets_eq, stk_set (by omega) hst.2⟩
theorem cev_3 {Q : Int × zM → Prop} {k : Nat → Int → zM → Option (Int × zM)} {rec : Nat → Nat → Nat → Int → Int → zM → Option (Int × zM)} {o : Nat} {x : Int} {m : zM} {R : List Int} {a b c : Int} (hl : R.length ≤ 38) (hx0 : 0 ≤ x) (hx1 : x < m o 1) (hx2 : m o 1 ≤ 1600) (hcd : m (o + 1) x = 5) (hst : stk (m (o + 2)) (c :: b :: a :: R)) (hk : ∀ m', stk (m' (o + 2)) ((if a = 0 then c else b) :: R) → eqO [o + 2] m m' → wp (rec o 29 9 ((R.length : Int) + 1) (x + 1) m') Q) : wp (Fo_valueOf_B4 k rec o 29 9 ((R.length : Int) + 3) x m) Q := by
  obtain ⟨s1, s2, s3, s4⟩ := hst
  have z1 : m (o + 2) ((R.length : Int) + 2) = c := by rw [← s1]; congr 1
  have z2 : m (o + 2) ((R.length : Int) + 1) = b := by rw [← s2]; congr 1
  have e0 : (R.length : Int) + 3 - 3 = (R.length : Int) := by omega
  have hk2 : ∀ u, u = (if a = 0 then c else b) → wp (rec o 29 9 ((R.length : Int) + 1) (x + 1) (upm m (o + 2) (R.length : Int) u)) Q := by
    intro u hu
    refine hk _ ?_ (eqO.refl.put (by simp))
    rw [upm_eq, hu]
    exact ⟨sets_eq, stk_set (by omega) s4⟩
  unfold Fo_valueOf_B4
  rw [if_pos hx1, rd_ok hx0 (by omega), hcd, show anI 5 255 = 5 from by decide +kernel, show Fo_operandsOf 5 = some 3 from by decide +kernel, Option.bind_some, lt_ok, e0, wI_ok (x := (R.length : Int)) (by omega) (by omega), if_neg (by omega), if_pos (by omega), if_neg (by decide), if_neg (by decide), if_neg (by decide), rd_ok (by omega) (by omega), s3, wI_ok (x := (R.length : Int) + 2) (by omega) (by omega), wI_ok (x := (R.length : Int) + 1) (by omega) (by omega), rd_ok (by omega) (by omega), rd_ok (by omega) (by omega), z1, z2, wr_ok (by omega) (by omega), wr_ok (by omega) (by omega), lt_ok, lt_ok, wI_ok (x := x + 1) (by omega) (by omega)]
  by_cases q : a = 0
  · rw [if_pos q]
    exact hk2 _ (by rw [if_pos q])
  · rw [if_neg q]
    exact hk2 _ (by rw [if_neg q])
theorem cev_2 {Q : Int × zM → Prop} {k : Nat → Int → zM → Option (Int × zM)} {rec : Nat → Nat → Nat → Int → Int → zM → Option (Int × zM)} {o : Nat} {x : Int} {m : zM} {R : List Int} {a b c r : Int} (hl : R.length ≤ 39) (hx0 : 0 ≤ x) (hx1 : x < m o 1) (hx2 : m o 1 ≤ 1600) (hcd : m (o + 1) x = c) (hcc : anI c 255 = c) (hop : Fo_operandsOf c = some 2) (hj : Fo_joined c a b = some r) (hst : stk (m (o + 2)) (b :: a :: R)) (hk : ∀ m', stk (m' (o + 2)) (r :: R) → eqO [o + 2] m m' → wp (rec o 29 9 ((R.length : Int) + 1) (x + 1) m') Q) : wp (Fo_valueOf_B4 k rec o 29 9 ((R.length : Int) + 2) x m) Q := by
  obtain ⟨s1, s2, s3⟩ := hst
  have z1 : m (o + 2) ((R.length : Int) + 1) = b := by rw [← s1]; congr 1
  have e0 : (R.length : Int) + 2 - 2 = (R.length : Int) := by omega
  unfold Fo_valueOf_B4
  rw [if_pos hx1, rd_ok hx0 (by omega), hcd, hcc, hop, Option.bind_some, lt_ok, e0, wI_ok (x := (R.length : Int)) (by omega) (by omega), if_neg (by omega), if_pos (by omega), if_neg (by decide), if_neg (by decide), if_pos rfl, rd_ok (by omega) (by omega), s2, wI_ok (x := (R.length : Int) + 1) (by omega) (by omega), rd_ok (by omega) (by omega), z1, hj, Option.bind_some, wr_ok (by omega) (by omega), lt_ok, wI_ok (x := x + 1) (by omega) (by omega)]
  refine hk _ ?_ (eqO.refl.put (by simp))
  rw [upm_eq]
  exact ⟨sets_eq, stk_set (by omega) s3⟩
theorem cev_step {Q : Int × zM → Prop} {k : Nat → Int → zM → Option (Int × zM)} {rec : Nat → Nat → Nat → Int → Int → zM → Option (Int × zM)} {o : Nat} {x : Int} {m : zM} {st : List Int} {T T' : List Bool} {c s v mx : Int} {sc : Int → Int} (hst : stk (m (o + 2)) st) (ht : typ T st) (hT : tst s T = some T') (hc : crel c s v) (hx : s ≤ mx ∨ 30 ≤ s) (hmx : mx ≤ 9) (hl : T.length ≤ 41) (hl' : T'.length ≤ 41) (hx0 : 0 ≤ x) (hx1 : x < m o 1) (hx2 : m o 1 ≤ 1600) (hcd : m (o + 1) x = c) (hsc : ∀ i, 0 ≤ i → i < mx → m 29 i = sc i) (hk : ∀ m', stk (m' (o + 2)) (cst sc c st) → eqO [o + 2] m m' → wp (rec o 29 9 ((cst sc c st).length : Int) (x + 1) m') Q) : wp (Fo_valueOf_B4 k rec o 29 9 (st.length : Int) x m) Q := by
  have hlen := typ_len ht
  rcases crel_cases hc with ⟨h1, h2, h3, h4, h5, h6⟩ | ⟨h1, h2, h3, h4, h5, h6⟩ | ⟨h1, h2⟩ | ⟨h1, h2⟩ | h
  · have e : cst sc c st = (c / 256) :: st := by unfold cst; rw [if_pos h1]
    rw [e] at hk
    exact cev_0 (sc := sc) (by omega) hx0 hx1 hx2 hcd h2 h3 (by rw [h1]; rfl) (by rw [h1]; rfl) hst hk
  · have e : cst sc c st = sc (c / 256) :: st := by unfold cst; rw [if_neg (by omega), if_pos h1]
    rw [e] at hk
    refine cev_0 (sc := sc) (by omega) hx0 hx1 hx2 hcd h2 (by omega) (by rw [h1]; rfl) ?_ hst hk
    rw [h1]
    unfold Fo_pushed
    rw [if_neg (by decide), if_neg (by omega), if_pos (by omega), rd_ok (by omega) (by omega), hsc _ h4 (by omega)]
  · subst h1 h2
    obtain ⟨R, rfl, rfl⟩ := tst_not hT
    obtain ⟨v, R2, rfl, o1, o2⟩ := typ_cons ht
    simp only [List.length_cons] at hlen hl
    rw [cst_not] at hk
    exact cev_1 (by omega) hx0 hx1 hx2 hcd (o1.2.2 rfl) hst hk
  · subst h1 h2
    obtain ⟨R, rfl, rfl⟩ := tst_if hT
    obtain ⟨z, R2, rfl, o1, o2⟩ := typ_cons ht
    obtain ⟨y, R3, rfl, o3, o4⟩ := typ_cons o2
    obtain ⟨w, R4, rfl, o5, o6⟩ := typ_cons o4
    simp only [List.length_cons] at hlen hl
    rw [cst_if] at hk
    exact cev_3 (by omega) hx0 hx1 hx2 hcd hst hk
  · obtain ⟨⟨w1, w2, w3⟩, ⟨f1, f2, f3, f4⟩, hs⟩ := bop_f h
    obtain ⟨t1, t2, t3, R, rfl, rfl, q1, q2, q3⟩ := tst_two hs.1 hs.2 hT
    obtain ⟨b, R2, rfl, o1, o2⟩ := typ_cons ht
    obtain ⟨a, R3, rfl, o3, o4⟩ := typ_cons o2
    simp only [List.length_cons] at hlen hl
    rw [cst_two h] at hk
    have eo : Fo_operandsOf c = some 2 := by
      unfold Fo_operandsOf
      rw [if_neg f1, if_neg f2, if_neg f3, if_neg f4]
      split
      · rfl
      · split <;> rfl
    exact cev_2 (by omega) hx0 hx1 hx2 hcd (by rw [an255m w2 (by omega), w1]) eo (joined_ok h ⟨o3.1, o3.2.1⟩ ⟨o1.1, o1.2.1⟩ (fun q => ⟨o3.2.2 (q3 q).1, o1.2.2 (q3 q).2⟩)) hst hk
