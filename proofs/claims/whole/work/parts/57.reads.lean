/-! calls that read -/
theorem wp_ee {α : Type} {p q : Option α} {v : α} (e1 : p = some v) (e2 : q = some v) : wp p (fun a => wp q (fun b => a = b)) := ⟨v, e1, v, e2, rfl⟩
theorem n10 : ¬ (1 : Int) = 0 := by decide
theorem p00 : (0 : Int) = 0 := rfl
theorem isBeast_ok {m Z : zM} {z : Nat} {x : Int} (hZ : zv m z = Z) : Zo_isBeast z x m = some (if 0 ≤ x ∧ x < Z 0 0 then 1 else 0) := by
  unfold Zo_isBeast
  rw [rZ0 hZ]
  by_cases h1 : x < 0
  · rw [if_pos h1, if_neg (by omega)]
  · rw [if_neg h1]
    by_cases h2 : x < Z 0 0
    · rw [if_pos h2, if_pos (by omega)]
    · rw [if_neg h2, if_neg (by omega)]
theorem isGuest_ok {m Z : zM} {z : Nat} {x : Int} (hZ : zv m z = Z) : Zo_isGuest z x m = some (if 0 ≤ x ∧ x < Z 0 1 then 1 else 0) := by
  unfold Zo_isGuest
  rw [rZ0 hZ]
  by_cases h1 : x < 0
  · rw [if_pos h1, if_neg (by omega)]
  · rw [if_neg h1]
    by_cases h2 : x < Z 0 1
    · rw [if_pos h2, if_pos (by omega)]
    · rw [if_neg h2, if_neg (by omega)]
theorem MG_beast {Z S mM : zM} {bk v x : Int} (h : GG Z S mM bk v) : M_isBeast x mM = some (if 0 ≤ x ∧ x < Z 0 0 then 1 else 0) := by
  have n3 := h.bk
  unfold M_isBeast
  rw [h.2.2.1, rd_ok (by omega) (by omega), h.1.1.1]
  by_cases h1 : x < 0
  · rw [if_pos h1, if_neg (by omega)]
  · rw [if_neg h1]
    by_cases h2 : x < Z 0 0
    · rw [if_pos h2, if_pos (by omega)]
    · rw [if_neg h2, if_neg (by omega)]
theorem MG_guest {Z S mM : zM} {bk v x : Int} (h : GG Z S mM bk v) : M_isGuest x mM = some (if 0 ≤ x ∧ x < Z 0 1 then 1 else 0) := by
  have n3 := h.bk
  unfold M_isGuest
  rw [h.2.2.1, rd_ok (by omega) (by omega), h.1.2.1.1]
  by_cases h1 : x < 0
  · rw [if_pos h1, if_neg (by omega)]
  · rw [if_neg h1]
    by_cases h2 : x < Z 0 1
    · rw [if_pos h2, if_pos (by omega)]
    · rw [if_neg h2, if_neg (by omega)]
theorem rs_fault {mC mM : zM} {x : Int} (h : Rel mC mM) : wp (C_fault x mC) (fun a => wp (M_fault x mM) (fun b => a = b)) := by
  obtain ⟨z, ⟨a1, ⟨e1, e2⟩, _⟩, _⟩ := h
  refine wp_ee (v := if x = 0 then mM 0 10 else if x = 1 then mM 0 11 else -1) ?_ ?_
  · unfold C_fault
    rw [e1, e2]
    split
    · rfl
    · split <;> rfl
  · unfold M_fault
    split
    · rfl
    · split <;> rfl
theorem rs_status {mC mM : zM} {x : Int} (h : Rel mC mM) : wp (C_status x mC) (fun a => wp (M_status x mM) (fun b => a = b)) := by
  obtain ⟨z, ⟨a1, a2, a3, a4, a5, a6, a7, a8⟩, _⟩ := h
  refine wp_ee (v := if 0 ≤ x ∧ x ≤ 5 then mM 26 x else -1) ?_ ?_
  · unfold C_status
    by_cases h1 : 0 ≤ x ∧ x ≤ 5
    · rw [if_pos h1, if_neg (by omega), if_pos (by omega), rd_ok (by omega) (by omega), a6 x h1.1 (by omega)]
    · rw [if_neg h1]
      by_cases h2 : x < 0
      · rw [if_pos h2]
      · rw [if_neg h2, if_neg (by omega)]
  · unfold M_status
    rw [is_ok, Option.bind_some]
    by_cases h1 : 0 ≤ x ∧ x ≤ 5
    · rw [if_pos h1, if_pos h1, if_neg n10, rd_ok (by omega) (by omega)]
    · rw [if_neg h1, if_neg h1, if_pos p00]
theorem rs_octet {mC mM : zM} {x : Int} (h : Rel mC mM) : wp (C_octet x mC) (fun a => wp (M_octet x mM) (fun b => a = b)) := by
  obtain ⟨z, ⟨a1, a2, a3, a4, ⟨b1, b2, b3, b4⟩, a6, a7, a8⟩, _⟩ := h
  refine wp_ee (v := if 0 ≤ x ∧ x ≤ mM 0 76 - 1 then mM 52 x else -1) ?_ ?_
  · unfold C_octet
    by_cases h1 : 0 ≤ x ∧ x ≤ mM 0 76 - 1
    · rw [if_pos h1, if_neg (by omega), if_pos (by omega), rd_ok (by omega) (by omega), b4 x h1.1 (by omega)]
    · rw [if_neg h1]
      by_cases h2 : x < 0
      · rw [if_pos h2]
      · rw [if_neg h2, if_neg (by omega)]
  · unfold M_octet
    rw [wI_ok (by omega) (by omega), is_ok, Option.bind_some]
    by_cases h1 : 0 ≤ x ∧ x ≤ mM 0 76 - 1
    · rw [if_pos h1, if_pos h1, if_neg n10, rd_ok (by omega) (by omega)]
    · rw [if_neg h1, if_neg h1, if_pos p00]
theorem Rel.seed {mC mM : zM} {x : Int} (h : Rel mC mM) (hx : 0 ≤ x) (hx2 : x ≤ 2147483647) : Rel (upm mC 0 16 x) (upm mM 0 58 x) := by
  obtain ⟨z, hs, hn, hu⟩ := h
  have hz := hs.2.2.1.1
  have ez : zv (upm mC 0 16 x) z = zv mC z := zv_upm (by omega)
  have n1 : zv mC z 0 0 ≤ 6 := hs.2.2.1.2.2.2.2.1.2.2
  have n2 : zv mC z 0 1 ≤ 8 := hs.2.2.1.2.2.2.2.2.1.2.2
  refine ⟨z, ?_, ?_, ?_⟩
  · obtain ⟨a1, a2, a3, a4, a5, a6, a7, a8⟩ := hs
    unfold RS RZ RL RI
    rw [ez]
    simp (disch := decide) only [upm_ne, upm_eq, sets_ne, sets_eq]
    exact ⟨a1, a2, ⟨a3.1, a3.2.1, a3.2.2.1, a3.2.2.2.1, a3.2.2.2.2.same (fun a q1 q2 => upm_ne (by omega))⟩, a4, a5, a6, ⟨trivial, hx, hx2⟩, a8⟩
  · rw [ez, sv_upm (by omega)]
    exact hn.same n1 n2 (fun a q1 q2 i _ _ => ru1 (by omega))
  · exact hu.keep n1 n2 ⟨ru2 (by decide), ru2 (by decide)⟩ ez (fun a q => upm_ne (by omega)) ⟨ru2 (by decide), ru2 (by decide)⟩ (fun a q1 q2 i _ => ru1 (by omega))
/-- a refusal that answers false -/
theorem rs_no {mC mM : zM} {k : Int} (h : Rel mC mM) (h0 : 0 ≤ k) (h1 : k < 6) : wp ((C_refuse k mC).bind (fun r => some ((0 : Int), r.2))) (fun a => wp ((M_refuses k mM).bind (fun r => if r.1 < 0 then some ((0 : Int), r.2) else some (1, r.2))) (fun b => a.1 = b.1 ∧ Rel a.2 b.2)) := by
  rw [C_refuse_ok h0 h1, M_refuses_ok h0 h1]
  exact wp_some (wp_some ⟨rfl, h.refuse h0 h1⟩)
/-- a refusal that answers NONE -/
theorem rs_none {mC mM : zM} {k : Int} (h : Rel mC mM) (h0 : 0 ≤ k) (h1 : k < 6) : wp ((C_refuse k mC).bind (fun r => some (r.1, r.2))) (fun a => wp ((M_refuses k mM).bind (fun r => some (r.1, r.2))) (fun b => a.1 = b.1 ∧ Rel a.2 b.2)) := by
  rw [C_refuse_ok h0 h1, M_refuses_ok h0 h1]
  exact wp_some (wp_some ⟨rfl, h.refuse h0 h1⟩)
theorem rs_seed {mC mM : zM} {x : Int} (h : Rel mC mM) (hx : cI x) : wp (C_seed x mC) (fun a => wp (M_seed x mM) (fun b => a.1 = b.1 ∧ Rel a.2 b.2)) := by
  unfold C_seed M_seed
  by_cases h1 : x < 0
  · rw [if_pos h1, if_pos h1]
    exact rs_no h (by decide) (by decide)
  · rw [if_neg h1, if_neg h1]
    exact wp_some (wp_some ⟨rfl, h.seed (by omega) (by have := hx.2; omega)⟩)
theorem rs_guest {mC mM : zM} {g w : Int} (h : Rel mC mM) : wp (C_guest g w mC) (fun a => wp (M_guest g w mM) (fun b => a = b)) := by
  obtain ⟨z, hz, h12, hs, hg, hu⟩ := h.parts
  have n1 := hg.nb
  have n2 := hg.ng
  have n3 := hg.bk
  generalize hS : sv mC 8 = S at hg
  generalize hZ : zv mC z = Z at *
  generalize hb : mM 0 13 = bk at *
  unfold C_guest M_guest C_guest_b60
  simp only [mro_ok h12 (kdz hz), hb]
  rw [isGuest_ok hZ, MG_guest hg, Option.bind_some, Option.bind_some]
  by_cases c : 0 ≤ g ∧ g < Z 0 1
  · have e7 := hg.1.2.2.2.2.2.2.1.at (i := g) c rfl
    have e8 := hg.1.2.2.2.2.2.2.2.1.at (i := g) c rfl
    have e9 := hg.1.2.2.2.2.2.2.2.2.1.at (i := g) c rfl
    have e3 := hg.2.1.2.2.2.2.1.at (i := g) (j := g) c (by omega)
    have e2 := hg.2.1.2.2.2.1.at (i := g) (j := g) c (by omega)
    have l0 := MG_look hg c.1 c.2 (k := 0) (by decide) (by decide)
    have l1 := MG_look hg c.1 c.2 (k := 1) (by decide) (by decide)
    have l2 := MG_look hg c.1 c.2 (k := 2) (by decide) (by decide)
    have r0 : mC 9 (g * 3 + 0) = S 1 (g * 3 + 0) := rS1 (o := 8) hS (by omega) (by omega)
    have r1 : mC 9 (g * 3 + 1) = S 1 (g * 3 + 1) := rS1 (o := 8) hS (by omega) (by omega)
    have r2 : mC 9 (g * 3 + 2) = S 1 (g * 3 + 2) := rS1 (o := 8) hS (by omega) (by omega)
    have r3 : mC 11 g = S 3 g := rS3 (o := 8) hS (by omega) (by omega)
    have r4 : mC 10 g = S 2 g := rS2 (o := 8) hS (by omega) (by omega)
    have z7 := rZ hZ 7 (by decide)
    have z8 := rZ hZ 8 (by decide)
    have z9 := rZ hZ 9 (by decide)
    rw [if_pos c]
    have : w = 0 ∨ w = 1 ∨ w = 2 ∨ w = 3 ∨ w = 4 ∨ w = 5 ∨ w = 6 ∨ w = 7 ∨ (w ≠ 0 ∧ w ≠ 1 ∧ w ≠ 2 ∧ w ≠ 3 ∧ w ≠ 4 ∧ w ≠ 5 ∧ w ≠ 6 ∧ w ≠ 7) := by omega
    rcases this with e | e | e | e | e | e | e | e | ⟨q0, q1, q2, q3, q4, q5, q6, q7⟩
    · subst e
      refine wp_ee (v := S 1 (g * 3 + 0)) ?_ ?_ <;> simp (disch := omega) only [Int.reduceEq, ↓reduceIte, wI_ok, rd_ok, l0, r0, Option.bind_some]
    · subst e
      refine wp_ee (v := S 1 (g * 3 + 1)) ?_ ?_ <;> simp (disch := omega) only [Int.reduceEq, ↓reduceIte, wI_ok, rd_ok, l1, r1, Option.bind_some]
    · subst e
      refine wp_ee (v := S 1 (g * 3 + 2)) ?_ ?_ <;> simp (disch := omega) only [Int.reduceEq, ↓reduceIte, wI_ok, rd_ok, l2, r2, Option.bind_some]
    · subst e
      refine wp_ee (v := Z 7 g) ?_ ?_ <;> simp (disch := omega) only [Int.reduceEq, ↓reduceIte, wI_ok, rd_ok, e7, z7]
    · subst e
      refine wp_ee (v := Z 8 g) ?_ ?_ <;> simp (disch := omega) only [Int.reduceEq, ↓reduceIte, wI_ok, rd_ok, e8, z8]
    · subst e
      refine wp_ee (v := Z 9 g) ?_ ?_ <;> simp (disch := omega) only [Int.reduceEq, ↓reduceIte, wI_ok, rd_ok, e9, z9]
    · subst e
      refine wp_ee (v := S 3 g) ?_ ?_ <;> simp (disch := omega) only [Int.reduceEq, ↓reduceIte, wI_ok, rd_ok, e3, r3]
    · subst e
      refine wp_ee (v := S 2 g) ?_ ?_ <;> simp (disch := omega) only [Int.reduceEq, ↓reduceIte, wI_ok, rd_ok, e2, r4]
    · refine wp_ee (v := -1) ?_ ?_ <;> simp only [Int.reduceEq, ↓reduceIte, if_neg q0, if_neg q1, if_neg q2, if_neg q3, if_neg q4, if_neg q5, if_neg q6, if_neg q7]
  · rw [if_neg c]
    exact wp_ee (if_pos p00) (if_pos p00)
/-- the first guest that a beast keeps -/
def fkV (S : zM) (ng b : Int) : Nat → Int → Int
  | 0, _ => -1
  | n + 1, g => if g < ng then (if S 2 g = b then g else fkV S ng b n (g + 1)) else -1
theorem fk_C {mC Z S : zM} {z : Nat} {b : Int} (h12 : mC 0 12 = (z : Int) + 1) (hz : z = 55 ∨ z = 72) (hZ : zv mC z = Z) (hS : sv mC 8 = S) (n2 : Z 0 1 ≤ 8) : ∀ (n : Nat) (g : Int), 0 ≤ g → Z 0 1 - g < (n : Int) → g ≤ Z 0 1 → C_firstKeptBy_L2 mC n b g = some (fkV S (Z 0 1) b n g)
  | 0, g, h0, hn, hg => by omega
  | n + 1, g, h0, hn, hg => by
    show C_firstKeptBy_B2 _ _ _ _ = some (if g < Z 0 1 then _ else _)
    unfold C_firstKeptBy_B2
    rw [mro_ok h12 (kdz hz), rZ0 hZ]
    by_cases c : g < Z 0 1
    · rw [if_pos c, if_pos c, rd_ok h0 (by omega), show mC 10 g = S 2 g from rS2 (o := 8) hS h0 (by omega), wI_ok (by omega) (by omega)]
      by_cases d : S 2 g = b
      · rw [if_pos d, if_pos d]
      · rw [if_neg d, if_neg d]
        exact fk_C h12 hz hZ hS n2 n (g + 1) (by omega) (by omega) (by omega)
    · rw [if_neg c, if_neg c]
theorem fk_M {mM Z S : zM} {bk b : Int} (h : GG Z S mM bk 0) : ∀ (n : Nat) (g : Int), 0 ≤ g → Z 0 1 - g < (n : Int) → g ≤ Z 0 1 → M_beast_L128 mM n b g = some (fkV S (Z 0 1) b n g)
  | 0, g, h0, hn, hg => by omega
  | n + 1, g, h0, hn, hg => by
    have n2 := h.ng
    have n3 := h.bk
    show M_beast_B128 _ _ _ _ = some (if g < Z 0 1 then _ else _)
    unfold M_beast_B128
    rw [h.2.2.1, rd_ok (by omega) (by omega), h.1.2.1.1]
    by_cases c : g < Z 0 1
    · rw [if_pos c, if_pos c, rd_ok h0 (by omega), h.2.1.2.2.2.1.at (i := g) (j := g) ⟨h0, c⟩ (by omega), wI_ok (by omega) (by omega)]
      by_cases d : S 2 g = b
      · rw [if_pos d, if_pos d]
      · rw [if_neg d, if_neg d]
        exact fk_M h n (g + 1) (by omega) (by omega) (by omega)
    · rw [if_neg c, if_neg c]
theorem rs_beast {mC mM : zM} {g w : Int} (h : Rel mC mM) : wp (C_beast g w mC) (fun a => wp (M_beast g w mM) (fun b => a = b)) := by
  obtain ⟨z, hz, h12, hs, hg, hu⟩ := h.parts
  have n1 := hg.nb
  have n2 := hg.ng
  have n3 := hg.bk
  generalize hS : sv mC 8 = S at hg
  generalize hZ : zv mC z = Z at *
  generalize hb : mM 0 13 = bk at *
  unfold C_beast M_beast C_beast_b90
  simp only [mro_ok h12 (kdz hz), hb]
  rw [isBeast_ok hZ, MG_beast hg, Option.bind_some, Option.bind_some]
  by_cases c : 0 ≤ g ∧ g < Z 0 0
  · have e2 := hg.1.2.2.1.at (i := g) c rfl
    have e3 := hg.1.2.2.2.1.at (i := g) c rfl
    have e4 := hg.1.2.2.2.2.1.at (i := g) c rfl
    have l0 := MG_taste hg c.1 c.2 (k := 0) (by decide) (by decide)
    have l1 := MG_taste hg c.1 c.2 (k := 1) (by decide) (by decide)
    have l2 := MG_taste hg c.1 c.2 (k := 2) (by decide) (by decide)
    have r0 : mC 12 (g * 3 + 3 - 3) = S 4 (g * 3 + 0) := by rw [show g * 3 + 3 - 3 = g * 3 + 0 from by omega]; exact rS4 (o := 8) hS (by omega) (by omega)
    have r1 : mC 12 (g * 3 + 4 - 3) = S 4 (g * 3 + 1) := by rw [show g * 3 + 4 - 3 = g * 3 + 1 from by omega]; exact rS4 (o := 8) hS (by omega) (by omega)
    have r2 : mC 12 (g * 3 + 5 - 3) = S 4 (g * 3 + 2) := by rw [show g * 3 + 5 - 3 = g * 3 + 2 from by omega]; exact rS4 (o := 8) hS (by omega) (by omega)
    have z2 := rZ hZ 2 (by decide)
    have z3 := rZ hZ 3 (by decide)
    have z4 := rZ hZ 4 (by decide)
    have hh : mC 8 1 = S 0 1 := rS01 hS
    rw [if_pos c]
    have : w = 0 ∨ w = 1 ∨ w = 2 ∨ w = 3 ∨ w = 4 ∨ w = 5 ∨ w = 6 ∨ w = 7 ∨ (w ≠ 0 ∧ w ≠ 1 ∧ w ≠ 2 ∧ w ≠ 3 ∧ w ≠ 4 ∧ w ≠ 5 ∧ w ≠ 6 ∧ w ≠ 7) := by omega
    rcases this with e | e | e | e | e | e | e | e | ⟨q0, q1, q2, q3, q4, q5, q6, q7⟩
    · subst e
      refine wp_ee (v := Z 2 g) ?_ ?_ <;> simp (disch := omega) only [Int.reduceEq, ↓reduceIte, wI_ok, rd_ok, e2, z2]
    · subst e
      refine wp_ee (v := Z 3 g) ?_ ?_ <;> simp (disch := omega) only [Int.reduceEq, ↓reduceIte, wI_ok, rd_ok, e3, z3]
    · subst e
      refine wp_ee (v := Z 4 g) ?_ ?_ <;> simp (disch := omega) only [Int.reduceEq, ↓reduceIte, wI_ok, rd_ok, e4, z4]
    · subst e
      refine wp_ee (v := S 4 (g * 3 + 0)) ?_ ?_ <;> simp (disch := omega) only [Int.reduceEq, ↓reduceIte, wI_ok, rd_ok, l0, r0, Int.reduceSub, Option.bind_some]
    · subst e
      refine wp_ee (v := S 4 (g * 3 + 1)) ?_ ?_ <;> simp (disch := omega) only [Int.reduceEq, ↓reduceIte, wI_ok, rd_ok, l1, r1, Int.reduceSub, Option.bind_some]
    · subst e
      refine wp_ee (v := S 4 (g * 3 + 2)) ?_ ?_ <;> simp (disch := omega) only [Int.reduceEq, ↓reduceIte, wI_ok, rd_ok, l2, r2, Int.reduceSub, Option.bind_some]
    · subst e
      refine wp_ee (v := if awV Z S g = true then 1 else 0) ?_ ?_
      · simp only [Int.reduceEq, ↓reduceIte]
        rw [hh, awake_ok hZ c.1 (by omega), Option.bind_some]
        unfold awV
        by_cases q : Z 2 g ≤ S 0 1 ∧ S 0 1 ≤ Z 3 g
        · rw [if_pos q, if_pos (decide_eq_true q)]; rfl
        · rw [if_neg q, if_neg (fun t => q (of_decide_eq_true t))]; rfl
      · simp only [Int.reduceEq, ↓reduceIte]
        rw [MG_awake hg c.1 c.2, Option.bind_some]
        by_cases q : awV Z S g = true
        · rw [if_pos q]; rfl
        · rw [if_neg q]; rfl
    · subst e
      refine wp_ee (v := fkV S (Z 0 1) g 1000000 0) ?_ ?_
      · simp only [Int.reduceEq, ↓reduceIte]
        unfold C_firstKeptBy
        rw [fk_C h12 hz hZ hS n2.2 1000000 0 (by omega) (by omega) (by omega), Option.bind_some]
      · simp only [Int.reduceEq, ↓reduceIte]
        rw [fk_M hg 1000000 0 (by omega) (by omega) (by omega)]
    · refine wp_ee (v := -1) ?_ ?_ <;> simp only [Int.reduceEq, ↓reduceIte, if_neg q0, if_neg q1, if_neg q2, if_neg q3, if_neg q4, if_neg q5, if_neg q6, if_neg q7]
  · rw [if_neg c]
    exact wp_ee (if_pos p00) (if_pos p00)
theorem rs_between {mC mM : zM} {b g w : Int} (h : Rel mC mM) : wp (C_between b g w mC) (fun a => wp (M_between b g w mM) (fun b => a.1 = b.1 ∧ Rel a.2 b.2)) := by
  obtain ⟨z, hz, h12, hs, hg, hu⟩ := h.parts
  have n1 := hg.nb
  have n2 := hg.ng
  have n3 := hg.bk
  have hg0 := hg
  generalize hS : sv mC 8 = S at hg
  have hZ : zv mC z = zv mC z := rfl
  unfold C_between M_between
  simp only [mro_ok h12 (kdz hz)]
  rw [isBeast_ok hZ, MG_beast hg, isGuest_ok hZ, MG_guest hg]
  simp only [Option.bind_some]
  by_cases c : 0 ≤ b ∧ b < zv mC z 0 0
  · by_cases d : 0 ≤ g ∧ g < zv mC z 0 1
    · simp only [if_pos c, if_pos d, if_neg n10, lt_ok]
      rw [wI_ok (x := b * 8) (by omega) (by omega), wI_ok (x := b * 8 + g) (by omega) (by omega)]
      have : w = 0 ∨ w = 1 ∨ w = 2 ∨ w = 3 ∨ (w ≠ 0 ∧ w ≠ 1 ∧ w ≠ 2 ∧ w ≠ 3) := by omega
      rcases this with e | e | e | e | ⟨q0, q1, q2, q3⟩
      · subst e
        simp only [Int.reduceEq, ↓reduceIte]
        rw [suits_ok hg hS c.1 c.2 d.1 d.2, suiting_ok hg c.1 c.2 d.1 d.2]
        exact wp_some (wp_some ⟨rfl, h⟩)
      · subst e
        simp only [Int.reduceEq, ↓reduceIte]
        refine wp_bm (wp_liking hg hZ hS (by omega) (by omega) c.1 c.2 d.1 d.2) (fun r ⟨r1, r2⟩ => wp_some (wp_bm (wp_liked hg c.1 c.2 d.1 d.2) (fun r' ⟨r3, r4⟩ => wp_some ⟨by rw [r1, r3], ?_⟩)))
        exact Rel.quietO hz hs hg0 hu r2 (by intro a ha; simp at ha; omega) (.ofO (r4.mono (by simp)))
      · subst e
        simp only [Int.reduceEq, ↓reduceIte]
        rw [rd_ok (by omega) (by omega), MG_pair hg c.1 c.2 d.1 d.2, Option.bind_some, rd_ok (by omega) (by omega), MG_saw hg c.1 c.2 d.1 d.2, show mC 13 (b * 8 + g) = S 5 (b * 8 + g) from rS5 (o := 8) hS (by omega) (by omega)]
        exact wp_some (wp_some ⟨rfl, h⟩)
      · subst e
        simp only [Int.reduceEq, ↓reduceIte]
        rw [rd_ok (by omega) (by omega), MG_pair hg c.1 c.2 d.1 d.2, Option.bind_some, rd_ok (by omega) (by omega), MG_today hg c.1 c.2 d.1 d.2, show mC 14 (b * 8 + g) = S 6 (b * 8 + g) from rS6 (o := 8) hS (by omega) (by omega)]
        exact wp_some (wp_some ⟨rfl, h⟩)
      · simp only [if_neg q0, if_neg q1, if_neg q2, if_neg q3]
        exact wp_some (wp_some ⟨rfl, h⟩)
    · simp only [if_pos c, if_neg d, if_neg n10, ↓reduceIte]
      exact wp_some (wp_some ⟨rfl, h⟩)
  · simp only [if_neg c, ↓reduceIte]
    exact wp_some (wp_some ⟨rfl, h⟩)
