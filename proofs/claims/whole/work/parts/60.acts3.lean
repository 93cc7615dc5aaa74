/-! swap, undo, kept, has -/
def swp (f : Int → Int) (a b n : Int) : Int → Int := fun j => if a * 8 ≤ j ∧ j < a * 8 + n then f (b * 8 + (j - a * 8)) else if b * 8 ≤ j ∧ j < b * 8 + n then f (a * 8 + (j - b * 8)) else f j
theorem swp_0 {f : Int → Int} {a b : Int} : swp f a b 0 = f := by
  funext j
  unfold swp
  rw [if_neg (by omega), if_neg (by omega)]
theorem swp_s {f : Int → Int} {a b n : Int} (hab : a + 1 ≤ b ∨ b + 1 ≤ a) (n0 : 0 ≤ n) (n1 : n < 8) : sets (sets (swp f a b n) (a * 8 + n) (swp f a b n (b * 8 + n))) (b * 8 + n) (swp f a b n (a * 8 + n)) = swp f a b (n + 1) := by
  have e1 : swp f a b n (b * 8 + n) = f (b * 8 + n) := by unfold swp; rw [if_neg (by omega), if_neg (by omega)]
  have e2 : swp f a b n (a * 8 + n) = f (a * 8 + n) := by unfold swp; rw [if_neg (by omega), if_neg (by omega)]
  rw [e1, e2]
  funext j
  unfold sets swp
  by_cases q1 : j = b * 8 + n
  · subst q1
    rw [if_pos rfl, if_neg (by omega), if_pos (by omega), show a * 8 + (b * 8 + n - b * 8) = a * 8 + n from by omega]
  · rw [if_neg q1]
    by_cases q2 : j = a * 8 + n
    · subst q2
      rw [if_pos rfl, if_pos (by omega), show b * 8 + (a * 8 + n - a * 8) = b * 8 + n from by omega]
    · rw [if_neg q2]
      by_cases q3 : a * 8 ≤ j ∧ j < a * 8 + n
      · rw [if_pos q3, if_pos (by omega)]
      · rw [if_neg q3, if_neg (show ¬ (a * 8 ≤ j ∧ j < a * 8 + (n + 1)) by omega)]
        by_cases q4 : b * 8 ≤ j ∧ j < b * 8 + n
        · rw [if_pos q4, if_pos (by omega)]
        · rw [if_neg q4, if_neg (by omega)]
theorem swapP_ok {m : zM} {a n : Nat} {i j : Int} (i0 : 0 ≤ i) (i1 : i < (n : Int)) (j0 : 0 ≤ j) (j1 : j < (n : Int)) : St_swapPlaces a n i j m = some (upm (upm m a i (m a j)) a j (m a i)) := by
  unfold St_swapPlaces
  rw [rd_ok i0 i1, rd_ok j0 j1, wr_ok i0 i1, wr_ok j0 j1]
theorem wp_swapC {m : zM} {a b : Int} (a0 : 0 ≤ a) (a1 : a < 6) (b0 : 0 ≤ b) (b1 : b < 6) (hab : a ≠ b) : wp (St_swapKnowledge 8 a b m) (fun r => r = stA (stA m 13 (swp (m 13) a b 8)) 14 (swp (m 14) a b 8)) := by
  unfold St_swapKnowledge
  refine wp_for (fun n i (s : zM) => St_swapKnowledge_L2 n 8 a b i s) (fun i s => s = stA (stA m 13 (swp (m 13) a b i)) 14 (swp (m 14) a b i)) _ 0 8 ?_ ?_ 1000000 0 m (by omega) (by omega) (by omega) (by rw [swp_0, swp_0, stA_self]; exact (stA_self (m := m) (a := 14)).symm)
  · intro n s hI
    show wp (St_swapKnowledge_B2 _ _ _ _ _ _) _
    unfold St_swapKnowledge_B2
    rw [if_neg (by omega)]
    exact wp_some hI
  · intro n i s q0 q1 hI hr
    subst hI
    show wp (St_swapKnowledge_B2 _ _ _ _ _ _) _
    unfold St_swapKnowledge_B2
    rw [if_pos q1, wI_ok (x := a * 8) (by omega) (by omega), wI_ok (x := b * 8) (by omega) (by omega), wI_ok (x := a * 8 + i) (by omega) (by omega), wI_ok (x := b * 8 + i) (by omega) (by omega), wI_ok (x := i + 1) (by omega) (by omega), swapP_ok (by omega) (by omega) (by omega) (by omega), Option.bind_some, swapP_ok (by omega) (by omega) (by omega) (by omega), Option.bind_some]
    refine hr _ ?_
    have x13 : stA (stA m 13 (swp (m 13) a b i)) 14 (swp (m 14) a b i) 13 = swp (m 13) a b i := by rw [stA_ne (by decide), stA_eq]
    rw [x13]
    rw [ru1 (a := 8 + 5) (b := 8 + 6) (by decide), ru1 (a := 8 + 5) (b := 8 + 6) (by decide), ru1 (a := 8 + 5) (b := 8 + 6) (by decide), ru1 (a := 8 + 5) (b := 8 + 6) (by decide)]
    show upm (upm (upm (upm _ 13 _ _) 13 _ _) 14 _ (stA _ 14 _ 14 _)) 14 _ (stA _ 14 _ 14 _) = _
    rw [stA_eq, ← swp_s (f := m 13) (by omega) q0 q1, ← swp_s (f := m 14) (by omega) q0 q1]
    funext c
    by_cases c14 : c = 14
    · subst c14
      rw [upm_eq, upm_eq, upm_ne (by decide), upm_ne (by decide), stA_eq, stA_eq]
    · rw [upm_ne c14, upm_ne c14, stA_ne c14]
      by_cases c13 : c = 13
      · subst c13
        rw [upm_eq, upm_eq, stA_ne (by decide), stA_eq, stA_eq]
      · rw [upm_ne c13, upm_ne c13, stA_ne c14, stA_ne c13, stA_ne c13]
theorem wp_swapM {Z S m : zM} {bk a b : Int} (h : GG Z S m bk 0) (a0 : 0 ≤ a) (a1 : a < 6) (b0 : 0 ≤ b) (b1 : b < 6) (hab : a ≠ b) : wp (M_swap_L41 1000000 a b 0 m) (fun r => r.1 = 1 ∧ r.2 = stA (stA m 33 (swp (m 33) a b 8)) 34 (swp (m 34) a b 8)) := by
  have pr : ∀ c i : Int, 0 ≤ c → c < 6 → 0 ≤ i → i < 8 → M_pair 0 c i = some (c * 8 + i) := by
    intro c i c0 c1 i0 i1
    unfold M_pair
    rw [wI_ok (x := 48 * 0) (by omega) (by omega), wI_ok (x := 8 * c) (by omega) (by omega), wI_ok (x := 48 * 0 + 8 * c) (by omega) (by omega), wI_ok (by omega) (by omega)]
    congr 1
    omega
  refine wp_for (fun n i (s : zM) => M_swap_L41 n a b i s) (fun i s => s = stA (stA m 33 (swp (m 33) a b i)) 34 (swp (m 34) a b i)) _ 0 8 ?_ ?_ 1000000 0 m (by omega) (by omega) (by omega) (by rw [swp_0, swp_0, stA_self]; exact (stA_self (m := m) (a := 34)).symm)
  · intro n s hI
    show wp (M_swap_B41 _ _ _ _ _) _
    unfold M_swap_B41
    rw [if_neg (by omega)]
    exact wp_some ⟨rfl, hI⟩
  · intro n i s q0 q1 hI hr
    subst hI
    show wp (M_swap_B41 _ _ _ _ _) _
    unfold M_swap_B41
    rw [if_pos q1, pr a i a0 a1 q0 q1, pr b i b0 b1 q0 q1, Option.bind_some, Option.bind_some, rd_ok (by omega) (by omega), rd_ok (by omega) (by omega), rd_ok (by omega) (by omega), wr_ok (by omega) (by omega), rd_ok (by omega) (by omega), wr_ok (by omega) (by omega), wr_ok (by omega) (by omega), wr_ok (by omega) (by omega), wI_ok (x := i + 1) (by omega) (by omega)]
    refine hr _ ?_
    have x33 : stA (stA m 33 (swp (m 33) a b i)) 34 (swp (m 34) a b i) 33 = swp (m 33) a b i := by rw [stA_ne (by decide), stA_eq]
    rw [x33, ru1 (a := 33) (b := 34) (by decide), stA_eq, ← swp_s (f := m 33) (by omega) q0 q1, ← swp_s (f := m 34) (by omega) q0 q1]
    funext c
    by_cases c14 : c = 34
    · subst c14
      rw [upm_eq, upm_ne (by decide), upm_eq, upm_ne (by decide), stA_eq, stA_eq]
    · rw [upm_ne c14, stA_ne c14]
      by_cases c13 : c = 33
      · subst c13
        rw [upm_eq, upm_ne (by decide), upm_eq, stA_ne (by decide), stA_eq, stA_eq]
      · rw [upm_ne c13, upm_ne c14, upm_ne c13, stA_ne c14, stA_ne c13, stA_ne c13]
theorem AR.swap {nb ng a b : Int} {f g : Int → Int} {lo hi : Int} (h : AR (pP nb ng) f g (48 * 0) lo hi) (a0 : 0 ≤ a) (a1 : a < nb) (b0 : 0 ≤ b) (b1 : b < nb) : AR (pP nb ng) (swp f a b 8) (swp g a b 8) (48 * 0) lo hi := by
  intro i hi
  obtain ⟨i0, i1, i2⟩ := hi
  rw [show 48 * (0 : Int) + i = i from by omega]
  have k : ∀ j, pP nb ng j → g j = f j ∧ lo ≤ f j ∧ f j ≤ hi := fun j hj => by
    have := h j hj
    rw [show 48 * (0 : Int) + j = j from by omega] at this
    exact this
  unfold swp
  by_cases q3 : a * 8 ≤ i ∧ i < a * 8 + 8
  · rw [if_pos q3, if_pos q3]
    exact k _ ⟨by omega, by omega, by omega⟩
  · rw [if_neg q3, if_neg q3]
    by_cases q4 : b * 8 ≤ i ∧ i < b * 8 + 8
    · rw [if_pos q4, if_pos q4]
      exact k _ ⟨by omega, by omega, by omega⟩
    · rw [if_neg q4, if_neg q4]
      exact k _ ⟨i0, i1, i2⟩
theorem rs_swap {mC mM : zM} {x y : Int} (h : Rel mC mM) : wp (C_swap x y mC) (fun a => wp (M_swap x y mM) (fun b => a.1 = b.1 ∧ Rel a.2 b.2)) := by
  obtain ⟨z, Z, S, b, hr⟩ := h.toZ
  obtain ⟨hz, h12, hs, hg, hu, hZ, hS⟩ := id hr
  have n2 := hg.nb
  have n3 := hg.ng
  unfold C_swap M_swap M_swap_b21
  rw [mro_ok h12 (kdz hz), mro_ok h12 (kdz hz), isBeast_ok hZ, isBeast_ok hZ, MG_beast hg, MG_beast hg]
  simp only [Option.bind_some]
  by_cases c : 0 ≤ x ∧ x < Z 0 0
  · rw [if_pos c, if_neg n10, if_neg n10]
    by_cases d : 0 ≤ y ∧ y < Z 0 0
    · rw [if_pos d, if_neg n10, if_neg n10]
      by_cases e : x = y
      · rw [if_pos e, if_pos e]
        exact rs_no h (by decide) (by decide)
      · rw [if_neg e, if_neg e]
        refine wp_bm (rs_remember hr) (fun mC1 ⟨mM1, eM, hr1⟩ => ?_)
        obtain ⟨_, _, _, hg1, _, hZ1, hS1⟩ := id hr1
        rw [eM, Option.bind_some]
        refine wp_bm (wp_swapC c.1 (by omega) d.1 (by omega) e) (fun r hr2 => wp_some (wp_mono (wp_swapM hg1 c.1 (by omega) d.1 (by omega) e) (fun r' ⟨q1, q2⟩ => ⟨q1.symm, ?_⟩)))
        subst hr2
        have fr : eqO [13, 14] mC1 (stA (stA mC1 13 (swp (mC1 13) x y 8)) 14 (swp (mC1 14) x y 8)) := by
          intro a ha
          simp only [List.mem_cons, List.not_mem_nil, or_false, not_or] at ha
          rw [stA_ne ha.2, stA_ne ha.1]
        have fa : frA 0 mM1 r'.2 := by
          rw [q2]
          refine ⟨fun a ha => by rw [stA_ne (by omega), stA_ne (by omega)], fun a a1 a2 i hi => ?_⟩
          have o : ∀ f : Int → Int, (i < 0 ∨ 48 ≤ i) → swp f x y 8 i = f i := by
            intro f hi
            unfold swp
            rw [if_neg (by omega), if_neg (by omega)]
          by_cases e4 : a = 34
          · subst e4
            rw [stA_eq]
            rw [show lay 34 = 48 from rfl] at hi
            exact o _ (by omega)
          · rw [stA_ne e4]
            by_cases e3 : a = 33
            · subst e3
              rw [stA_eq]
              rw [show lay 33 = 48 from rfl] at hi
              exact o _ (by omega)
            · rw [stA_ne e3]
        have es : sv (stA (stA mC1 13 (swp (mC1 13) x y 8)) 14 (swp (mC1 14) x y 8)) 8 = stA (stA S 5 (swp (S 5) x y 8)) 6 (swp (S 6) x y 8) := by
          funext k i
          have sw0 : ∀ (q : Nat), sv mC1 8 q = S q := fun q => by rw [hS1]
          have inr : ∀ (f g : Int → Int), (∀ j, 0 ≤ j → j < 48 → f j = g j) → (0 ≤ i ∧ i < 48) → swp f x y 8 i = swp g x y 8 i := by
            intro f g hfg hi
            unfold swp
            by_cases w1 : x * 8 ≤ i ∧ i < x * 8 + 8
            · rw [if_pos w1, if_pos w1]; exact hfg _ (by omega) (by omega)
            · rw [if_neg w1, if_neg w1]
              by_cases w2 : y * 8 ≤ i ∧ i < y * 8 + 8
              · rw [if_pos w2, if_pos w2]; exact hfg _ (by omega) (by omega)
              · rw [if_neg w2, if_neg w2]; exact hfg _ hi.1 hi.2
          have oor : ∀ (f : Int → Int), ¬ (0 ≤ i ∧ i < 48) → swp f x y 8 i = f i := by
            intro f hi
            unfold swp
            rw [if_neg (by omega), if_neg (by omega)]
          by_cases k5 : k = 5
          · subst k5
            rw [stA_ne (by decide), stA_eq]
            show (if 0 ≤ i ∧ i < 48 then stA (stA mC1 13 (swp (mC1 13) x y 8)) 14 (swp (mC1 14) x y 8) 13 i else 0) = _
            rw [stA_ne (by decide), stA_eq]
            by_cases w : 0 ≤ i ∧ i < 48
            · rw [if_pos w]
              exact inr _ _ (fun j j0 j1 => rS5 (o := 8) hS1 j0 j1) w
            · rw [if_neg w, oor _ w, ← hS1]
              exact (if_neg w).symm
          · by_cases k6 : k = 6
            · subst k6
              rw [stA_eq]
              show (if 0 ≤ i ∧ i < 48 then stA (stA mC1 13 (swp (mC1 13) x y 8)) 14 (swp (mC1 14) x y 8) 14 i else 0) = _
              rw [stA_eq]
              by_cases w : 0 ≤ i ∧ i < 48
              · rw [if_pos w]
                exact inr _ _ (fun j j0 j1 => rS6 (o := 8) hS1 j0 j1) w
              · rw [if_neg w, oor _ w, ← hS1]
                exact (if_neg w).symm
            · rw [stA_ne k6, stA_ne k5, ← hS1]
              exact sv_cong k (by rw [stA_ne (by omega), stA_ne (by omega)])
        have sm : SM Z (stA (stA S 5 (swp (S 5) x y 8)) 6 (swp (S 6) x y 8)) r'.2 0 := by
          obtain ⟨a1, a2, a3, a4, a5, a6, a7, a8, a9, a10⟩ := hg1.2.1
          rw [q2]
          unfold SM RW
          simp (disch := decide) only [stA_ne, stA_eq]
          exact ⟨a1, a2, a3, a4, a5, a6, a7.swap c.1 c.2 d.1 d.2, a8.swap c.1 c.2 d.1 d.2, a9, a10⟩
        exact (hr1.now fr (by simp) fa es sm).rel
    · rw [if_neg d, if_pos p00, if_pos p00]
      exact rs_no h (by decide) (by decide)
  · rw [if_neg c, if_pos p00, if_pos p00]
    exact rs_no h (by decide) (by decide)
theorem rs_kept {mC mM : zM} {k w : Int} (h : Rel mC mM) : wp (C_kept k w mC) (fun a => wp (M_kept k w mM) (fun b => a = b)) := by
  obtain ⟨z, Z, S, b, hr⟩ := h.toZ
  obtain ⟨hz, h12, hs, hg, hu, hZ, hS⟩ := id hr
  obtain ⟨k1, k2, k3, k4, k5⟩ := hg.2.1.2.2.2.2.2.2.2.2.1
  have hrw := hg.2.1.2.2.2.2.2.2.2.2.2
  have e11 : mC 8 11 = S 0 11 := rS0b hS
  have e10 : mC 8 10 = S 0 10 := rS0a hS
  unfold C_kept M_kept
  rw [rd_ok (by decide) (by decide), k1, wI_ok (by omega) (by omega), is_ok, is_ok, Option.bind_some, Option.bind_some, e11]
  by_cases c : 0 ≤ k ∧ k < S 0 11
  · rw [if_pos (show 0 ≤ k ∧ k ≤ S 0 11 - 1 by omega), if_neg n10, if_neg (show ¬ k < 0 by omega), if_pos c.2]
    obtain ⟨⟨v0, v1⟩, r1, r2, r3, r4, r5⟩ := hrw k c.1 c.2
    unfold St_rowPart
    rw [e10, wI_ok (x := S 0 10 + k) (by omega) (by omega), rmI_n (x := S 0 10 + k) (by omega) (by omega) (by omega) (by omega), rd_ok (by omega) (by omega), show mC (8 + 7) ((S 0 10 + k) % 60) = S 7 ((S 0 10 + k) % 60) from rS7 hS (by omega) (by omega)]
    generalize S 7 ((S 0 10 + k) % 60) = v at *
    rw [dvI_n (x := v) (by omega) (by omega) (by omega) (by omega), dvI_n (x := v / 4) (by omega) (by omega) (by omega) (by omega), dvI_n (x := v / 4) (y := 8) (by omega) (by omega) (by omega) (by omega), lt_ok, dvI_n (x := v / 4 / 48) (by omega) (by omega) (by omega) (by omega), rmI_n (x := v / 4 / 48) (by omega) (by omega) (by omega) (by omega), rmI_n (x := v / 4 / 8) (by omega) (by omega) (by omega) (by omega), rmI_n (x := v / 4) (by omega) (by omega) (by omega) (by omega), rmI_n (x := v) (by omega) (by omega) (by omega) (by omega)]
    have e0 : ∀ c, 300 * (0 : Int) + 5 * k + c = 5 * k + c := fun c => by omega
    rw [show 300 * (0 : Int) + 5 * k = 5 * k + 0 from by omega] at r1
    rw [e0] at r2 r3 r4 r5
    have : w = 0 ∨ w = 1 ∨ w = 2 ∨ w = 3 ∨ w = 4 ∨ ¬ (0 ≤ w ∧ w ≤ 4) := by omega
    rcases this with e | e | e | e | e | e
    · subst e
      refine wp_ee (v := v / 4 / 48 / 24) ?_ ?_
      · rfl
      · rw [show (if (0 : Int) ≤ 0 ∧ (0 : Int) ≤ 4 then (1 : Int) else 0) = 1 from rfl, if_neg n10, wI_ok (x := 5 * k) (by omega) (by omega), wI_ok (by omega) (by omega), rd_ok (by omega) (by omega), r1]
    · subst e
      refine wp_ee (v := v / 4 / 48 % 24) ?_ ?_
      · rfl
      · rw [show (if (0 : Int) ≤ 1 ∧ (1 : Int) ≤ 4 then (1 : Int) else 0) = 1 from rfl, if_neg n10, wI_ok (x := 5 * k) (by omega) (by omega), wI_ok (by omega) (by omega), rd_ok (by omega) (by omega), r2]
    · subst e
      refine wp_ee (v := v / 4 / 8 % 6) ?_ ?_
      · rfl
      · rw [show (if (0 : Int) ≤ 2 ∧ (2 : Int) ≤ 4 then (1 : Int) else 0) = 1 from rfl, if_neg n10, wI_ok (x := 5 * k) (by omega) (by omega), wI_ok (by omega) (by omega), rd_ok (by omega) (by omega), r3]
    · subst e
      refine wp_ee (v := v / 4 % 8) ?_ ?_
      · rfl
      · rw [show (if (0 : Int) ≤ 3 ∧ (3 : Int) ≤ 4 then (1 : Int) else 0) = 1 from rfl, if_neg n10, wI_ok (x := 5 * k) (by omega) (by omega), wI_ok (by omega) (by omega), rd_ok (by omega) (by omega), r4]
    · subst e
      refine wp_ee (v := v % 4) ?_ ?_
      · rfl
      · rw [show (if (0 : Int) ≤ 4 ∧ (4 : Int) ≤ 4 then (1 : Int) else 0) = 1 from rfl, if_neg n10, wI_ok (x := 5 * k) (by omega) (by omega), wI_ok (by omega) (by omega), rd_ok (by omega) (by omega), r5]
    · refine wp_ee (v := -1) ?_ ?_
      · rw [if_neg (by omega), if_neg (by omega), if_neg (by omega), if_neg (by omega), if_neg (by omega)]
        rfl
      · rw [if_neg e, if_pos p00]
  · rw [if_neg (show ¬ (0 ≤ k ∧ k ≤ S 0 11 - 1) by omega), if_pos p00]
    refine wp_ee (v := -1) ?_ rfl
    by_cases q : k < 0
    · rw [if_pos q]
    · rw [if_neg q, if_neg (by omega)]
theorem rs_undo {mC mM : zM} (h : Rel mC mM) : wp (C_undo mC) (fun a => wp (M_undo mM) (fun b => a.1 = b.1 ∧ Rel a.2 b.2)) := by
  obtain ⟨z, Z, S, b, hr⟩ := h.toZ
  obtain ⟨hz, h12, hs, hg, hu, hZ, hS⟩ := id hr
  obtain ⟨⟨u1, u2, u3⟩, ⟨u4, u5, u6⟩, u7⟩ := id hu
  have n1 := hg.nb
  have n2 := hg.ng
  unfold C_undo M_undo M_slot
  by_cases c : 0 < mC 0 15
  · rw [if_pos c, if_neg (show ¬ mM 0 57 = 0 by omega), pf_ok, pf_ok, ru2 (a := 0) (b := 0) (i := 15) (j := 14) (by decide), ru3 (a := 0) (b := 0) (i := 15) (j := 15) rfl rfl, ru2 (a := 0) (b := 0) (i := 57) (j := 56) (by decide), ru3 (a := 0) (b := 0) (i := 57) (j := 57) rfl rfl, ← u1, ← u4, wI_ok (x := mC 0 15 - 1) (by omega) (by omega), wI_ok (x := mC 0 14 + (mC 0 15 - 1)) (by omega) (by omega), rmI_n (x := mC 0 14 + (mC 0 15 - 1)) (by omega) (by omega) (by omega) (by omega), gi_ok (by omega) (by omega), Option.bind_some, wI_ok (by omega) (by omega)]
    have w := u7 (mC 0 15 - 1) (by omega) (by omega)
    rw [hZ] at w
    generalize hi : (mC 0 14 + (mC 0 15 - 1)) % 20 = i at *
    have i0 : 0 ≤ i ∧ i < 20 := by omega
    have w' : SM Z (sv mC (89 + 8 * i.toNat)) (upm mM 0 57 (mC 0 15 - 1)) (2 + i) := w.same n1.2 n2.2 (fun a a1 a2 i' _ _ => ru1 (by omega))
    refine wp_bm (wp_copyFrom (by omega)) (fun m1 ⟨e1, e2⟩ => wp_some ?_)
    refine wp_bm (wp_copies w' n1 n2 (to := 0) (by omega) (by omega) (by omega) (by omega) (by omega)) (fun m2 ⟨q1, q2⟩ => wp_some ⟨rfl, ?_⟩)
    rw [sv_upm (a := 0) (by omega)] at e1
    have k1 : K1 z mC m1 := (K1.put0 (by decide) hz).trans (K1.ofO e2 (by simp) hz)
    have k2 : K2 mM m2 := (K2.put0 (by decide)).trans (K2.ofA q2.A)
    have f0 : m1 0 = upm mC 0 15 (mC 0 15 - 1) 0 := e2 0 (by simp)
    have g0 : m2 0 = upm mM 0 57 (mC 0 15 - 1) 0 := q2.1 0 (by omega)
    show Rel m1 m2
    refine ⟨z, hs.keep k1 k2, by rw [k1.2.2.2, hZ, e1]; exact q1, ?_⟩
    unfold RU
    rw [k1.2.2.2, hZ, f0, g0, ru2 (by decide), ru3 rfl rfl, ru2 (by decide), ru3 rfl rfl]
    refine ⟨⟨u1, u2, u3⟩, ⟨rfl, by omega, by omega⟩, fun k w0 w1 => ?_⟩
    have w2 := u7 k w0 (by omega)
    rw [hZ] at w2
    have w3 : SM Z (sv mC (89 + 8 * ((mC 0 14 + k) % 20).toNat)) (upm mM 0 57 (mC 0 15 - 1)) (2 + (mC 0 14 + k) % 20) := w2.same n1.2 n2.2 (fun a a1 a2 i' _ _ => ru1 (by omega))
    rw [sv_eq (m := mC) (m' := m1) (o := 89 + 8 * ((mC 0 14 + k) % 20).toNat) (fun q hq => by rw [e2 _ (by simp; omega), upm_ne (by omega)])]
    exact w3.frame n1.2 n2.2 q2.A (by omega)
  · rw [if_neg c, if_pos (show mM 0 57 = 0 by omega)]
    exact rs_no h (by decide) (by decide)
