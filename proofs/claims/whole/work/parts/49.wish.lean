theorem wp_wishL {Z S mM : zM} {bk v b taken fr : Int} (h : GG Z S mM bk v) (b0 : 0 ≤ b) (b1 : b < Z 0 0) (f0 : 0 ≤ fr) (f1 : fr ≤ 6) (aw : awV Z S b = true) : wp (M_wished_L25 1000000 v b taken fr (-1) 0 0 mM) (fun r => r.1 = (favV Z S b taken fr (Z 0 1).toNat).2 ∧ eqO [37, 38] mM r.2) := by
  have n1 := h.nb
  have n2 := h.ng
  have n3 := h.bk
  refine wp_for (fun n i (s : (Int × Int) × zM) => M_wished_L25 n v b taken fr s.1.2 s.1.1 i s.2) (fun i s => eqO [37, 38] mM s.2 ∧ s.1 = favV Z S b taken fr i.toNat) _ 0 (Z 0 1) ?_ ?_ 1000000 0 ((0, -1), mM) (by omega) (by omega) (by omega) ⟨eqO.refl, rfl⟩
  · intro n s hI
    obtain ⟨i1, i2⟩ := hI
    have hs : GG Z S s.2 bk v := h.keepM (i1.mono (by simp))
    show wp (M_wished_B25 _ _ _ _ _ _ _ _ _) _
    unfold M_wished_B25
    rw [hs.2.2.1, rd_ok (by omega) (by omega), hs.1.2.1.1, if_neg (by omega)]
    exact wp_some ⟨by rw [← i2], i1⟩
  · intro n i s q0 q1 hI hr
    obtain ⟨i1, i2⟩ := hI
    have hs : GG Z S s.2 bk v := h.keepM (i1.mono (by simp))
    show wp (M_wished_B25 _ _ _ _ _ _ _ _ _) _
    unfold M_wished_B25
    have ei : ((i.toNat : Nat) : Int) = i := by omega
    have en : (i + 1).toNat = i.toNat + 1 := by omega
    have nx : ∀ p : (Int × Int) × zM, eqO [37, 38] mM p.2 → p.1 = favV Z S b taken fr (i.toNat + 1) → wp (M_wished_L25 n v b taken fr p.1.2 p.1.1 (i + 1) p.2) (fun r => r.1 = (favV Z S b taken fr (Z 0 1).toNat).2 ∧ eqO [37, 38] mM r.2) := fun p e1 e2 => hr p ⟨e1, by rw [en]; exact e2⟩
    have ef : ∀ q : Prop, (q ↔ ((awV Z S b && opV Z S b i) = true ∧ (favV Z S b taken fr i.toNat).1 < LKV Z S b i ∧ anI (srI taken i) 1 = 0 ∧ mayV Z S b i fr = 1)) → (q → favV Z S b taken fr (i.toNat + 1) = (LKV Z S b i, i)) ∧ (¬ q → favV Z S b taken fr (i.toNat + 1) = favV Z S b taken fr i.toNat) := by
      intro q hq
      constructor
      · intro w
        have w2 := hq.mp w
        rw [← ei] at w2
        rw [Int.toNat_natCast] at w2
        show (if _ then _ else _) = _
        rw [if_pos w2, ei]
      · intro w
        have w2 := fun t => w (hq.mpr t)
        rw [← ei] at w2
        rw [Int.toNat_natCast] at w2
        show (if _ then _ else _) = _
        rw [if_neg w2]
    rw [hs.2.2.1, rd_ok (by omega) (by omega), hs.1.2.1.1, if_pos q1, wI_ok (x := i + 1) (by omega) (by omega), M_has2_ok, Option.bind_some, i2]
    by_cases c4 : anI (srI taken i) 1 = 0
    · rw [if_pos c4, MG_open hs q0 q1, Option.bind_some]
      by_cases c2 : opV Z S b i = true
      · have c2' : (awV Z S b && opV Z S b i) = true := by rw [aw, c2]; rfl
        rw [if_pos c2, if_neg (by decide)]
        refine wp_bm (wp_liked hs b0 b1 q0 q1) (fun r ⟨r1, r2⟩ => ?_)
        have g2 := i1.trans r2
        have h2 : GG Z S r.2 bk v := h.keepM (g2.mono (by simp))
        rw [r1]
        by_cases c1 : (favV Z S b taken fr i.toNat).1 < LKV Z S b i
        · rw [if_pos c1]
          refine wp_bm (wp_allowed h2 b0 b1 q0 q1 f0 f1) (fun r' ⟨r3, r4⟩ => ?_)
          have mb := h.mayb b0 b1 q0 q1 f0 f1
          have g3 := g2.trans r4
          have h3 : GG Z S r'.2 bk v := h.keepM (g3.mono (by simp))
          rw [r3]
          by_cases c5 : mayV Z S b i fr = 0
          · rw [if_pos c5]
            exact nx (_, r'.2) g3 ((ef False ⟨fun x => x.elim, fun x => by omega⟩).2 id).symm
          · rw [if_neg c5]
            refine wp_bm (wp_liked h3 b0 b1 q0 q1) (fun r6 ⟨r7, r8⟩ => ?_)
            rw [r7]
            exact nx ((_, _), r6.2) (g3.trans r8) ((ef True ⟨fun _ => ⟨c2', c1, c4, by omega⟩, fun _ => trivial⟩).1 trivial).symm
        · rw [if_neg c1]
          exact nx (_, r.2) g2 ((ef False ⟨fun x => x.elim, fun x => c1 x.2.1⟩).2 id).symm
      · rw [if_neg c2, if_pos rfl]
        exact nx (_, s.2) i1 ((ef False ⟨fun x => x.elim, fun x => c2 (by have := x.1; simp at this; exact this.2)⟩).2 id).symm
    · rw [if_neg c4]
      exact nx (_, s.2) i1 ((ef False ⟨fun x => x.elim, fun x => c4 x.2.2.1⟩).2 id).symm
theorem wp_wished {Z S mM : zM} {bk v b taken fr : Int} (h : GG Z S mM bk v) (b0 : 0 ≤ b) (b1 : b < Z 0 0) (f0 : 0 ≤ fr) (f1 : fr ≤ 6) : wp (M_wished v b taken fr mM) (fun r => r.1 = wishV Z S b taken fr ∧ eqO [37, 38] mM r.2) := by
  unfold M_wished
  rw [MG_awake h b0 b1, Option.bind_some]
  unfold wishV
  by_cases c1 : awV Z S b = true
  · rw [if_pos c1, if_neg (by decide)]
    by_cases c2 : fr = 0
    · rw [if_pos c2, if_neg (by omega)]
      exact wp_some ⟨rfl, eqO.refl⟩
    · rw [if_neg c2, if_pos ⟨by omega, c1⟩]
      exact wp_wishL h b0 b1 f0 f1 c1
  · rw [if_neg c1, if_pos rfl, if_neg (fun t => c1 t.2)]
    exact wp_some ⟨rfl, eqO.refl⟩
/-! frames of the model, layer by layer -/
def lay (a : Nat) : Int := if a = 27 ∨ a = 28 ∨ a = 35 then 1 else if a = 29 then 24 else if a = 30 ∨ a = 31 then 8 else if a = 32 then 18 else if a = 33 ∨ a = 34 then 48 else 300
def frM (v : Int) (m m' : zM) : Prop := (∀ a, a ≤ 26 ∨ 39 ≤ a → m' a = m a) ∧ ∀ a, 27 ≤ a → a ≤ 36 → ∀ i, (i < lay a * v ∨ lay a * v + lay a ≤ i) → m' a i = m a i
theorem frM.refl {v : Int} {m : zM} : frM v m m := ⟨fun _ _ => rfl, fun _ _ _ _ _ => rfl⟩
theorem frM.trans {v : Int} {m m' m2 : zM} (h : frM v m m') (h2 : frM v m' m2) : frM v m m2 := ⟨fun a q => by rw [h2.1 a q, h.1 a q], fun a q1 q2 i q3 => by rw [h2.2 a q1 q2 i q3, h.2 a q1 q2 i q3]⟩
theorem frM.ofO {v : Int} {m m' : zM} (h : eqO [37, 38] m m') : frM v m m' := ⟨fun a q => h a (by simp; omega), fun a q1 q2 i _ => by rw [h a (by simp; omega)]⟩
/-- the same, and what is asked may change too -/
def frA (v : Int) (m m' : zM) : Prop := (∀ a, a ≤ 26 ∨ 41 ≤ a → m' a = m a) ∧ ∀ a, 27 ≤ a → a ≤ 36 → ∀ i, (i < lay a * v ∨ lay a * v + lay a ≤ i) → m' a i = m a i
theorem frM.A {v : Int} {m m' : zM} (h : frM v m m') : frA v m m' := ⟨fun a q => h.1 a (by omega), h.2⟩
theorem frA.refl {v : Int} {m : zM} : frA v m m := frM.refl.A
theorem frA.trans {v : Int} {m m' m2 : zM} (h : frA v m m') (h2 : frA v m' m2) : frA v m m2 := ⟨fun a q => by rw [h2.1 a q, h.1 a q], fun a q1 q2 i q3 => by rw [h2.2 a q1 q2 i q3, h.2 a q1 q2 i q3]⟩
theorem frA.ofO {v : Int} {m m' : zM} (h : eqO [37, 38, 39, 40] m m') : frA v m m' := ⟨fun a q => h a (by simp; omega), fun a q1 q2 i _ => by rw [h a (by simp; omega)]⟩
theorem frM.put {v : Int} {m m' : zM} {a : Nat} {i x : Int} (h : frM v m m') (a1 : 27 ≤ a) (a2 : a ≤ 36) (i1 : lay a * v ≤ i) (i2 : i < lay a * v + lay a) : frM v m (upm m' a i x) := by
  refine ⟨fun b q => ?_, fun b q1 q2 j q3 => ?_⟩
  · rw [upm_ne (by omega)]
    exact h.1 b q
  · by_cases e : b = a
    · subst e
      rw [ru2 (by omega)]
      exact h.2 b q1 q2 j q3
    · rw [upm_ne e]
      exact h.2 b q1 q2 j q3
theorem AR.congr {P : Int → Prop} {f g g' : Int → Int} {b lo hi : Int} (h : AR P f g b lo hi) (e : ∀ i, P i → g' (b + i) = g (b + i)) : AR P f g' b lo hi := fun i hi => by
  rw [e i hi]
  exact h i hi
/-- layer u, seen in another memory -/
theorem SM.same {Z S m m' : zM} {u : Int} (h : SM Z S m u) (n1 : Z 0 0 ≤ 6) (n2 : Z 0 1 ≤ 8) (k : ∀ a, 27 ≤ a → a ≤ 36 → ∀ i, lay a * u ≤ i → i < lay a * u + lay a → m' a i = m a i) : SM Z S m' u := by
  obtain ⟨a1, a2, a3, a4, a5, a6, a7, a8, a9, a10⟩ := h
  have l29 : lay 29 = 24 := rfl
  have l30 : lay 30 = 8 := rfl
  have l31 : lay 31 = 8 := rfl
  have l32 : lay 32 = 18 := rfl
  have l33 : lay 33 = 48 := rfl
  have l34 : lay 34 = 48 := rfl
  have l36 : lay 36 = 300 := rfl
  refine ⟨?_, ?_, ?_, ?_, ?_, ?_, ?_, ?_, ?_, ?_⟩
  · rw [k 27 (by omega) (by omega) u (by show 1 * u ≤ u; omega) (by show u < 1 * u + 1; omega)]; exact a1
  · rw [k 28 (by omega) (by omega) u (by show 1 * u ≤ u; omega) (by show u < 1 * u + 1; omega)]; exact a2
  · exact a3.congr fun i hi => k 29 (by omega) (by omega) _ (by rw [l29]; have := hi.1; omega) (by rw [l29]; have := hi.2; omega)
  · exact a4.congr fun i hi => k 30 (by omega) (by omega) _ (by rw [l30]; have := hi.1; omega) (by rw [l30]; have := hi.2; omega)
  · exact a5.congr fun i hi => k 31 (by omega) (by omega) _ (by rw [l31]; have := hi.1; omega) (by rw [l31]; have := hi.2; omega)
  · exact a6.congr fun i hi => k 32 (by omega) (by omega) _ (by rw [l32]; have := hi.1; omega) (by rw [l32]; have := hi.2; omega)
  · exact a7.congr fun i hi => k 33 (by omega) (by omega) _ (by rw [l33]; have := hi.1; omega) (by rw [l33]; have := hi.2.1; omega)
  · exact a8.congr fun i hi => k 34 (by omega) (by omega) _ (by rw [l34]; have := hi.1; omega) (by rw [l34]; have := hi.2.1; omega)
  · rw [k 35 (by omega) (by omega) u (by show 1 * u ≤ u; omega) (by show u < 1 * u + 1; omega)]; exact a9
  · intro j j0 j1
    have := a10 j j0 j1
    rw [k 36 (by omega) (by omega) _ (by rw [l36]; omega) (by rw [l36]; omega), k 36 (by omega) (by omega) _ (by rw [l36]; omega) (by rw [l36]; omega), k 36 (by omega) (by omega) _ (by rw [l36]; omega) (by rw [l36]; omega), k 36 (by omega) (by omega) _ (by rw [l36]; omega) (by rw [l36]; omega), k 36 (by omega) (by omega) _ (by rw [l36]; omega) (by rw [l36]; omega)]
    exact this
theorem SM.frame {Z S m m' : zM} {u v : Int} (h : SM Z S m u) (n1 : Z 0 0 ≤ 6) (n2 : Z 0 1 ≤ 8) (f : frA v m m') (e : u ≠ v) : SM Z S m' u := by
  refine h.same n1 n2 (fun a a1 a2 i i1 i2 => f.2 a a1 a2 i ?_)
  have l : 1 ≤ lay a := by
    unfold lay
    repeat' split
    all_goals omega
  rcases (by omega : u < v ∨ v < u) with q | q
  · left
    have : lay a * (u + 1) ≤ lay a * v := Int.mul_le_mul_of_nonneg_left (by omega) (by omega)
    rw [Int.mul_add, Int.mul_one] at this
    omega
  · right
    have : lay a * (v + 1) ≤ lay a * u := Int.mul_le_mul_of_nonneg_left (by omega) (by omega)
    rw [Int.mul_add, Int.mul_one] at this
    omega
theorem ZM.same {Z m m' : zM} {b : Int} (h : ZM Z m b) (k : ∀ a, 2 ≤ a → a ≤ 18 → m' a = m a) : ZM Z m' b := by
  unfold ZM FR at h ⊢
  rw [k 2 (by omega) (by omega), k 3 (by omega) (by omega), k 4 (by omega) (by omega), k 5 (by omega) (by omega), k 6 (by omega) (by omega), k 7 (by omega) (by omega), k 8 (by omega) (by omega), k 9 (by omega) (by omega), k 10 (by omega) (by omega), k 11 (by omega) (by omega), k 12 (by omega) (by omega), k 13 (by omega) (by omega), k 14 (by omega) (by omega), k 15 (by omega) (by omega), k 16 (by omega) (by omega), k 17 (by omega) (by omega), k 18 (by omega) (by omega)]
  exact h
theorem GG.upd {Z S S' mM mM' : zM} {bk v : Int} (h : GG Z S mM bk v) (f : frM v mM mM') (hs : SM Z S' mM' v) : GG Z S' mM' bk v := ⟨h.1.same (fun a q1 q2 => f.1 a (by omega)), hs, by rw [f.1 0 (by omega)]; exact h.2.2.1, h.2.2.2⟩
theorem GG.updA {Z S S' mM mM' : zM} {bk v : Int} (h : GG Z S mM bk v) (f : frA v mM mM') (hs : SM Z S' mM' v) : GG Z S' mM' bk v := ⟨h.1.same (fun a q1 q2 => f.1 a (by omega)), hs, by rw [f.1 0 (by omega)]; exact h.2.2.1, h.2.2.2⟩
