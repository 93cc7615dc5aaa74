/-! chance, and the acts -/
def drV (s : Int) : Int := (1103515245 * s + 12345) % 2147483648
theorem an31 {x : Int} : anI x 2147483647 = x % 2147483648 := by
  unfold anI
  have h := pk_and (Int32.ofInt x) (m := Int32.ofInt 2147483647) 31 (by decide)
  rw [h, nI_toInt (by omega)]
  have e : (Int32.ofInt x).toBitVec.toNat = (x % 4294967296).toNat := by
    show (BitVec.ofInt 32 x).toNat = _
    rw [BitVec.toNat_ofInt]
    rfl
  rw [e]
  omega
theorem drC {s : Int} (h0 : 0 ≤ s) (h1 : s ≤ 2147483647) : anI (wI (wI (1103515245 * s) + 12345)) 2147483647 = drV s := by
  rw [an31]
  unfold drV wI
  omega
theorem rmL_n {x y : Int} (h0 : 0 ≤ x) (h1 : x < 9223372036854775808) (h2 : 0 < y) (h3 : y < 9223372036854775808) : rmL x y = x % y := by
  have hd : dvL x y = x / y := by
    unfold dvL
    rw [Int64.toInt_div, tL_oL ⟨by omega, h1⟩, tL_oL ⟨by omega, h3⟩, Int.tdiv_eq_ediv_of_nonneg h0]
    have := ediv_le h0 h2
    generalize x / y = q at *
    show Int.bmod _ 18446744073709551616 = _
    rw [Int.bmod_def]
    omega
  rw [rmL_q, hd]
  have e := Int.mul_ediv_add_emod x y
  have a1 := Int.emod_nonneg x (show y ≠ 0 by omega)
  have a2 := Int.emod_lt_of_pos x h2
  have a3 : 0 ≤ y * (x / y) := Int.mul_nonneg (by omega) (ediv_le h0 h2).1
  rw [Int.mul_comm (x / y) y]
  generalize y * (x / y) = p at *
  rw [wL_ok (x := p) (by omega) (by omega), wL_ok (by omega) (by omega)]
  omega
theorem drM {s : Int} (h0 : 0 ≤ s) (h1 : s ≤ 2147483647) : rmL (wL (wL (1103515245 * s) + 12345)) 2147483648 = drV s := by
  rw [wL_ok (x := 1103515245 * s) (by omega) (by omega), wL_ok (by omega) (by omega), rmL_n (by omega) (by omega) (by omega) (by omega)]
  rfl
theorem dvL_n {x y : Int} (h0 : 0 ≤ x) (h1 : x < 9223372036854775808) (h2 : 0 < y) (h3 : y < 9223372036854775808) : dvL x y = x / y := by
  unfold dvL
  rw [Int64.toInt_div, tL_oL ⟨by omega, h1⟩, tL_oL ⟨by omega, h3⟩, Int.tdiv_eq_ediv_of_nonneg h0]
  have := ediv_le h0 h2
  generalize x / y = q at *
  show Int.bmod _ 18446744073709551616 = _
  rw [Int.bmod_def]
  omega
theorem dr_b (s : Int) : 0 ≤ drV s ∧ drV s ≤ 2147483647 := by unfold drV; omega
theorem C_draw_ok {m : zM} (h0 : 0 ≤ m 0 16) (h1 : m 0 16 ≤ 2147483647) : C_drawOfHundred m = some (drV (m 0 16) / 64 % 100, upm m 0 16 (drV (m 0 16))) := by
  have d := dr_b (m 0 16)
  unfold C_drawOfHundred
  rw [drC h0 h1, pf_ok, ru3 rfl rfl, dvI_n (by omega) (by omega) (by omega) (by omega), rmI_n (by omega) (by omega) (by omega) (by omega)]
theorem M_draw_ok {m : zM} (h0 : 0 ≤ m 0 58) (h1 : m 0 58 ≤ 2147483647) : M_draw 100 m = some (drV (m 0 58) / 64 % 100, upm m 0 58 (drV (m 0 58))) := by
  have d := dr_b (m 0 58)
  unfold M_draw
  rw [drM h0 h1, pf_ok, nz_ok (by decide), ru3 rfl rfl, dvL_n (by omega) (by omega) (by omega) (by omega), rmL_n (by omega) (by omega) (by omega) (by omega), wI_ok (by omega) (by omega)]
/-- the seed has changed in both -/
theorem RelZ.seed {mC mM : zM} {z : Nat} {Z S : zM} {b x : Int} (h : RelZ mC mM z Z S b) (h0 : 0 ≤ x) (h1 : x ≤ 2147483647) : RelZ (upm mC 0 16 x) (upm mM 0 58 x) z Z S b := by
  obtain ⟨hz, h12, hs, hg, hu, hZ, hS⟩ := h
  have R : Rel mC mM := ⟨z, hs, by rw [hZ, hS]; exact hg.2.1, hu⟩
  have ez : zv (upm mC 0 16 x) z = zv mC z := zv_upm (by omega)
  have es : sv (upm mC 0 16 x) 8 = sv mC 8 := sv_upm (by omega)
  have n1 := hg.nb
  have n2 := hg.ng
  refine ⟨hz, by rw [ru2 (by decide)]; exact h12, ?_, ⟨hg.1.same (fun a q1 q2 => upm_ne (by omega)), hg.2.1.same n1.2 n2.2 (fun a q1 q2 i _ _ => ru1 (by omega)), by rw [ru2 (by decide)]; exact hg.2.2.1, hg.2.2.2⟩, ?_, by rw [ez, hZ], by rw [es, hS]⟩
  · obtain ⟨a1, a2, a3, a4, a5, a6, a7, a8⟩ := hs
    unfold RS RZ RL RI
    rw [ez]
    simp (disch := decide) only [upm_ne, upm_eq, sets_ne, sets_eq]
    exact ⟨a1, a2, ⟨a3.1, a3.2.1, a3.2.2.1, a3.2.2.2.1, a3.2.2.2.2.same (fun a q1 q2 => upm_ne (by omega))⟩, a4, a5, a6, ⟨trivial, h0, h1⟩, a8⟩
  · exact hu.keep (by rw [hZ]; exact n1.2) (by rw [hZ]; exact n2.2) ⟨ru2 (by decide), ru2 (by decide)⟩ ez (fun a q => upm_ne (by omega)) ⟨ru2 (by decide), ru2 (by decide)⟩ (fun a q1 q2 i _ => ru1 (by omega))
/-- one more hour in both, played -/
theorem rs_play {mC mM : zM} {z : Nat} {Z S : zM} {b : Int} (h : RelZ mC mM z Z S b) (hm : mom S < 23999) : wp (Ke_playHour z 8 mC) (fun a => wp (M_asking 0 mM) (fun r => a.1 = r.1 ∧ a.1 = cntV Z S ∧ wp (M_isOver 0 r.2) (fun mM' => RelZ a.2 mM' z Z (playS Z S) b))) := by
  obtain ⟨hz, h12, hs, hg, hu, hZ, hS⟩ := id h
  refine wp_mono (wp_playHour hg hZ hS (by omega) (by omega)) (fun a ⟨a1, a2, a3⟩ => wp_mono (wp_hourM hg) (fun r ⟨r1, r2⟩ => ⟨by rw [a1, r1], a1, wp_mono (r2 hm) (fun mM' ⟨q1, q2⟩ => ?_)⟩))
  exact h.now a3 (by simp) q2 a2 q1.2.1
/-- one more hour in both, in the rain -/
theorem rs_rain {mC mM : zM} {z : Nat} {Z S : zM} {b : Int} (h : RelZ mC mM z Z S b) (hm : mom S < 23999) : wp (St_passHour 8 mC) (fun a => wp (M_isOver 0 mM) (fun mM' => RelZ a mM' z Z (overS S) b)) := by
  obtain ⟨hz, h12, hs, hg, hu, hZ, hS⟩ := id h
  refine wp_mono (wp_passHour hS hg.hr hg.dy) (fun a ⟨a1, a2⟩ => wp_mono (wp_isOver hg) (fun mM' ⟨q1, q2⟩ => ?_))
  exact h.now a2 (by simp) q1.A a1 (q2 hm).2.1
theorem chance_L {z : Nat} {Z : zM} {b N : Int} (N1 : N ≤ 200) : ∀ (d n k : Nat) (i x : Int) (mC mM S : zM), i + (d : Int) = N → 0 ≤ i → d < n → d < k → 0 ≤ x → x ≤ i → RelZ mC mM z Z S b → mom S + (d : Int) ≤ 23999 → wp (C_chance_L22 n N x i mC) (fun a => wp (M_chance_L26 k N x i mM) (fun b => a.1 = b.1 ∧ Rel a.2 b.2)) := by
  intro d
  induction d with
  | zero =>
    intro n k i x mC mM S hi i0 hn hk x0 x1 h hm
    obtain ⟨n, rfl⟩ : ∃ q, n = q + 1 := ⟨n - 1, by omega⟩
    obtain ⟨k, rfl⟩ : ∃ q, k = q + 1 := ⟨k - 1, by omega⟩
    show wp (C_chance_B22 _ _ _ _ _) (fun a => wp (M_chance_B26 _ _ _ _ _) _)
    unfold C_chance_B22 M_chance_B26
    rw [if_neg (by omega), if_neg (by omega)]
    exact wp_some (wp_some ⟨rfl, h.rel⟩)
  | succ d ih =>
    intro n k i x mC mM S hi i0 hn hk x0 x1 h hm
    obtain ⟨n, rfl⟩ : ∃ q, n = q + 1 := ⟨n - 1, by omega⟩
    obtain ⟨k, rfl⟩ : ∃ q, k = q + 1 := ⟨k - 1, by omega⟩
    obtain ⟨hz, h12, hs, hg, hu, hZ, hS⟩ := id h
    obtain ⟨s1, s2, s3⟩ := hs.2.2.2.2.2.2.1
    have h1 := h.seed (dr_b (mC 0 16)).1 (dr_b (mC 0 16)).2
    obtain ⟨_, g12, _, gg, _, gZ, gS⟩ := id h1
    have r18 := hg.set2.2.2.2
    show wp (C_chance_B22 _ _ _ _ _) (fun a => wp (M_chance_B26 _ _ _ _ _) _)
    unfold C_chance_B22 M_chance_B26
    rw [if_pos (by omega), if_pos (by omega), C_draw_ok s2 s3, M_draw_ok (by omega) (by omega), ← s1, Option.bind_some, Option.bind_some]
    show wp (mro kdC 10 (upm mC 0 16 (drV (mC 0 16)) 0 12) (fun zz5 => if drV (mC 0 16) / 64 % 100 < upm mC 0 16 (drV (mC 0 16)) zz5 18 then (St_passHour 8 (upm mC 0 16 (drV (mC 0 16)))).bind (fun r8 => C_chance_L22 n N (wI (x + 1)) (wI (i + 1)) r8) else mro kdC 10 (upm mC 0 16 (drV (mC 0 16)) 0 12) (fun zz11 => (Ke_playHour zz11 8 (upm mC 0 16 (drV (mC 0 16)))).bind (fun r12 => C_chance_L22 n N x (wI (i + 1)) r12.2)))) (fun a => wp ((M_toldOf 4 (upm mM 0 58 (drV (mC 0 16)))).bind (fun r5 => if drV (mC 0 16) / 64 % 100 < r5 then M_chance_b50 (M_chance_L26 k) N x i 1 (upm mM 0 58 (drV (mC 0 16))) else M_chance_b50 (M_chance_L26 k) N x i 0 (upm mM 0 58 (drV (mC 0 16))))) (fun b => a.1 = b.1 ∧ Rel a.2 b.2))
    generalize upm mC 0 16 (drV (mC 0 16)) = mC1 at *
    generalize upm mM 0 58 (drV (mC 0 16)) = mM1 at *
    generalize drV (mC 0 16) / 64 % 100 = dr
    rw [mro_ok g12 (kdz hz), mro_ok g12 (kdz hz), show mC1 z 18 = Z 0 18 from by rw [rZ0 gZ], MG_told gg (by decide) (by decide), Option.bind_some, show Z 0 (14 + 4) = Z 0 18 from rfl, wI_ok (x := i + 1) (by omega) (by omega)]
    unfold M_chance_b50 M_chance_b63
    simp only [lt_ok, if_neg n10, ↓reduceIte]
    rw [wI_ok (x := x + 1) (by omega) (by omega), wI_ok (x := x + 0) (by omega) (by omega), wI_ok (x := i + 1) (by omega) (by omega), Int.add_zero]
    by_cases c : dr < Z 0 18
    · rw [if_pos c, if_pos c]
      refine wp_bm (rs_rain h1 (by omega)) (fun a ⟨mM', e, hr⟩ => ?_)
      rw [e, Option.bind_some]
      exact ih n k (i + 1) (x + 1) a mM' (overS S) (by omega) (by omega) (by omega) (by omega) (by omega) (by omega) hr (by rw [over_mom hg.hr]; omega)
    · rw [if_neg c, if_neg c]
      refine wp_bm (rs_play h1 (by omega)) (fun a ⟨r, e, _, _, mM', e2, hr⟩ => ?_)
      rw [e, Option.bind_some, e2, Option.bind_some]
      exact ih n k (i + 1) x a.2 mM' (playS Z S) (by omega) (by omega) (by omega) (by omega) (by omega) (by omega) hr (by rw [play_mom hg]; omega)
theorem rs_chance {mC mM : zM} {n : Int} (h : Rel mC mM) : wp (C_chance n mC) (fun a => wp (M_chance n mM) (fun b => a.1 = b.1 ∧ Rel a.2 b.2)) := by
  obtain ⟨z, Z, S, b, hr⟩ := h.toZ
  have hg := hr.2.2.2.1
  unfold C_chance M_chance
  rw [goBy_ok hg hr.2.2.2.2.2.2, ahead_ok hg (by omega) (by omega), Option.bind_some, Option.bind_some]
  by_cases c : 1 ≤ n ∧ n ≤ 200 ∧ n ≤ 23999 - mom S
  · rw [if_pos c, if_neg n10, if_neg n10]
    refine wp_bm (rs_remember hr) (fun mC1 ⟨mM1, eM, hr1⟩ => ?_)
    rw [eM, Option.bind_some]
    exact chance_L c.2.1 n.toNat 1000000 1000000 0 0 mC1 mM1 S (by omega) (by omega) (by omega) (by omega) (by omega) (by omega) hr1 (by omega)
  · rw [if_neg c, if_pos p00, if_pos p00]
    exact rs_none h (by decide) (by decide)
/-! acts -/
theorem trait_ok {x : Int} : C_isTrait x = some (if 0 ≤ x ∧ x ≤ 9 then 1 else 0) := by
  unfold C_isTrait
  by_cases h1 : x < 0
  · rw [if_pos h1, if_neg (by omega)]
  · rw [if_neg h1]
    by_cases h2 : 9 < x
    · rw [if_pos h2, if_neg (by omega)]
    · rw [if_neg h2, if_pos (by omega)]
theorem nine_ok {x y w : Int} : M_areNine x y w = some (if (0 ≤ x ∧ x ≤ 9) ∧ (0 ≤ y ∧ y ≤ 9) ∧ (0 ≤ w ∧ w ≤ 9) then 1 else 0) := by
  unfold M_areNine
  rw [is_ok, is_ok, is_ok, Option.bind_some]
  by_cases h1 : 0 ≤ x ∧ x ≤ 9
  · rw [if_pos h1, if_neg n10, Option.bind_some]
    by_cases h2 : 0 ≤ y ∧ y ≤ 9
    · rw [if_pos h2, if_neg n10, Option.bind_some]
      by_cases h3 : 0 ≤ w ∧ w ≤ 9
      · rw [if_pos h3, if_neg n10, if_pos ⟨h1, h2, h3⟩]
      · rw [if_neg h3, if_pos p00, if_neg (fun t => h3 t.2.2)]
    · rw [if_neg h2, if_pos p00, if_neg (fun t => h2 t.2.1)]
  · rw [if_neg h1, if_pos p00, if_neg (fun t => h1 t.1)]
theorem newT_ok {m : zM} {a n : Nat} {i x y w : Int} (i0 : 0 ≤ i) (i1 : i + 2 < (n : Int)) (hn : n < 1000) : C_isNewTriple a n i x y w m = some (if ((0 ≤ x ∧ x ≤ 9) ∧ (0 ≤ y ∧ y ≤ 9) ∧ (0 ≤ w ∧ w ≤ 9)) ∧ ¬ (m a i = x ∧ m a (i + 1) = y ∧ m a (i + 2) = w) then 1 else 0) := by
  unfold C_isNewTriple
  rw [trait_ok, trait_ok, trait_ok, Option.bind_some]
  by_cases h1 : 0 ≤ x ∧ x ≤ 9
  · rw [if_pos h1, if_neg n10, Option.bind_some]
    by_cases h2 : 0 ≤ y ∧ y ≤ 9
    · rw [if_pos h2, if_neg n10, Option.bind_some]
      by_cases h3 : 0 ≤ w ∧ w ≤ 9
      · rw [if_pos h3, if_neg n10, wI_ok (by omega) (by omega), wI_ok (by omega) (by omega), rd_ok (by omega) (by omega), rd_ok (by omega) (by omega), rd_ok (by omega) (by omega)]
        by_cases q1 : m a i = x
        · rw [if_pos q1]
          by_cases q2 : m a (i + 1) = y
          · rw [if_pos q2]
            by_cases q3 : m a (i + 2) = w
            · rw [if_pos q3, if_neg (fun t => t.2 ⟨q1, q2, q3⟩)]
            · rw [if_neg q3, if_pos ⟨⟨h1, h2, h3⟩, fun t => q3 t.2.2⟩]
          · rw [if_neg q2, if_pos ⟨⟨h1, h2, h3⟩, fun t => q2 t.2.1⟩]
        · rw [if_neg q1, if_pos ⟨⟨h1, h2, h3⟩, fun t => q1 t.1⟩]
      · rw [if_neg h3, if_pos p00, if_neg (fun t => h3 t.1.2.2)]
    · rw [if_neg h2, if_pos p00, if_neg (fun t => h2 t.1.2.1)]
  · rw [if_neg h1, if_pos p00, if_neg (fun t => h1 t.1.1)]
theorem setT_ok {m : zM} {a n : Nat} {i x y w : Int} (i0 : 0 ≤ i) (i1 : i + 2 < (n : Int)) (hn : n < 1000) : C_setTriple a n i x y w m = some (upm (upm (upm m a i x) a (i + 1) y) a (i + 2) w) := by
  unfold C_setTriple
  rw [wI_ok (by omega) (by omega), wI_ok (by omega) (by omega), wr_ok (by omega) (by omega), wr_ok (by omega) (by omega), wr_ok (by omega) (by omega)]
theorem rs_change {mC mM : zM} {g x y w : Int} (h : Rel mC mM) : wp (C_change g x y w mC) (fun a => wp (M_change g x y w mM) (fun b => a.1 = b.1 ∧ Rel a.2 b.2)) := by
  obtain ⟨z, Z, S, b, hr⟩ := h.toZ
  obtain ⟨hz, h12, hs, hg, hu, hZ, hS⟩ := id hr
  have n2 := hg.ng
  unfold C_change M_change M_change_b53
  rw [mro_ok h12 (kdz hz), isGuest_ok hZ, MG_guest hg, Option.bind_some, Option.bind_some]
  by_cases c : 0 ≤ g ∧ g < Z 0 1
  · rw [if_pos c, if_neg n10, if_neg n10, wI_ok (x := g * 3) (by omega) (by omega), newT_ok (by omega) (by omega) (by decide), nine_ok, Option.bind_some, Option.bind_some]
    have r0 : mC 9 (g * 3) = S 1 (g * 3) := rS1 (o := 8) hS (by omega) (by omega)
    have r1 : mC 9 (g * 3 + 1) = S 1 (g * 3 + 1) := rS1 (o := 8) hS (by omega) (by omega)
    have r2 : mC 9 (g * 3 + 2) = S 1 (g * 3 + 2) := rS1 (o := 8) hS (by omega) (by omega)
    rw [r0, r1, r2]
    by_cases d : (0 ≤ x ∧ x ≤ 9) ∧ (0 ≤ y ∧ y ≤ 9) ∧ (0 ≤ w ∧ w ≤ 9)
    · rw [if_pos d, if_neg n10, MG_look hg c.1 c.2 (by decide) (by decide), MG_look hg c.1 c.2 (by decide) (by decide), MG_look hg c.1 c.2 (by decide) (by decide), Option.bind_some, Option.bind_some, Option.bind_some, Int.add_zero]
      by_cases e : S 1 (g * 3) = x ∧ S 1 (g * 3 + 1) = y ∧ S 1 (g * 3 + 2) = w
      · rw [if_neg (show ¬ (((0 ≤ x ∧ x ≤ 9) ∧ (0 ≤ y ∧ y ≤ 9) ∧ (0 ≤ w ∧ w ≤ 9)) ∧ ¬ (S 1 (g * 3) = x ∧ S 1 (g * 3 + 1) = y ∧ S 1 (g * 3 + 2) = w)) from fun t => t.2 e), if_pos p00, if_pos e.1, if_pos e.2.1, if_pos e.2.2]
        exact rs_no h (by decide) (by decide)
      · rw [if_pos (show ((0 ≤ x ∧ x ≤ 9) ∧ (0 ≤ y ∧ y ≤ 9) ∧ (0 ≤ w ∧ w ≤ 9)) ∧ ¬ (S 1 (g * 3) = x ∧ S 1 (g * 3 + 1) = y ∧ S 1 (g * 3 + 2) = w) from ⟨d, e⟩), if_neg n10]
        have em : (if S 1 (g * 3) = x then (if S 1 (g * 3 + 1) = y then (if S 1 (g * 3 + 2) = w then (M_refuses 3 mM).bind (fun r1 => if r1.1 < 0 then some ((0 : Int), r1.2) else some (1, r1.2)) else M_change_b67 g x y w mM) else M_change_b67 g x y w mM) else M_change_b67 g x y w mM) = M_change_b67 g x y w mM := by
          by_cases q1 : S 1 (g * 3) = x
          · rw [if_pos q1]
            by_cases q2 : S 1 (g * 3 + 1) = y
            · rw [if_pos q2, if_neg (fun t => e ⟨q1, q2, t⟩)]
            · rw [if_neg q2]
          · rw [if_neg q1]
        rw [em]
        unfold M_change_b67
        refine wp_bm (rs_remember hr) (fun mC1 ⟨mM1, eM, hr1⟩ => ?_)
        obtain ⟨_, _, _, hg1, _, hZ1, hS1⟩ := id hr1
        rw [eM, Option.bind_some, setT_ok (by omega) (by omega) (by decide), Option.bind_some, wI_ok (x := 3 * g) (by omega) (by omega), wI_ok (x := 3 * g + 1) (by omega) (by omega), wI_ok (x := 3 * g + 2) (by omega) (by omega), wr_ok (by omega) (by omega), wr_ok (by omega) (by omega), wr_ok (by omega) (by omega)]
        have es : sv (upm (upm (upm mC1 9 (g * 3) x) 9 (g * 3 + 1) y) 9 (g * 3 + 2) w) 8 = upm (upm (upm S 1 (g * 3) x) 1 (g * 3 + 1) y) 1 (g * 3 + 2) w := by
          rw [sv_w1 (o := 8) (by omega) (by omega), sv_w1 (o := 8) (by omega) (by omega), sv_w1 (o := 8) (by omega) (by omega), hS1]
        have sm := ((hg1.2.1.w1 (i := g * 3) d.1.1 d.1.2).w1 (i := g * 3 + 1) d.2.1.1 d.2.1.2).w1 (i := g * 3 + 2) d.2.2.1 d.2.2.2
        rw [show 24 * (0 : Int) + g * 3 = 3 * g from by omega, show 24 * (0 : Int) + (g * 3 + 1) = 3 * g + 1 from by omega, show 24 * (0 : Int) + (g * 3 + 2) = 3 * g + 2 from by omega] at sm
        have fa : frA 0 mM1 (upm (upm (upm mM1 29 (3 * g) x) 29 (3 * g + 1) y) 29 (3 * g + 2) w) := by
          refine (((frM.refl.put ?_ ?_ ?_ ?_).put ?_ ?_ ?_ ?_).put ?_ ?_ ?_ ?_).A
          all_goals (try rw [show lay 29 = 24 from rfl]); omega
        exact wp_some (wp_some ⟨rfl, (hr1.now (l := [9]) (((eqO.refl.put (by simp)).put (by simp)).put (by simp)) (by simp) fa es sm).rel⟩)
    · rw [if_neg (show ¬ (((0 ≤ x ∧ x ≤ 9) ∧ (0 ≤ y ∧ y ≤ 9) ∧ (0 ≤ w ∧ w ≤ 9)) ∧ ¬ (S 1 (g * 3) = x ∧ S 1 (g * 3 + 1) = y ∧ S 1 (g * 3 + 2) = w)) from fun t => d t.1), if_neg d, if_pos p00, if_pos p00]
      exact rs_no h (by decide) (by decide)
  · rw [if_neg c, if_pos p00, if_pos p00]
    exact rs_no h (by decide) (by decide)
theorem rs_train {mC mM : zM} {g x y w : Int} (h : Rel mC mM) : wp (C_train g x y w mC) (fun a => wp (M_train g x y w mM) (fun b => a.1 = b.1 ∧ Rel a.2 b.2)) := by
  obtain ⟨z, Z, S, b, hr⟩ := h.toZ
  obtain ⟨hz, h12, hs, hg, hu, hZ, hS⟩ := id hr
  have n2 := hg.nb
  unfold C_train M_train M_train_b53
  rw [mro_ok h12 (kdz hz), isBeast_ok hZ, MG_beast hg, Option.bind_some, Option.bind_some]
  by_cases c : 0 ≤ g ∧ g < Z 0 0
  · rw [if_pos c, if_neg n10, if_neg n10, wI_ok (x := g * 3) (by omega) (by omega), newT_ok (by omega) (by omega) (by decide), nine_ok, Option.bind_some, Option.bind_some]
    have r0 : mC 12 (g * 3) = S 4 (g * 3) := rS4 (o := 8) hS (by omega) (by omega)
    have r1 : mC 12 (g * 3 + 1) = S 4 (g * 3 + 1) := rS4 (o := 8) hS (by omega) (by omega)
    have r2 : mC 12 (g * 3 + 2) = S 4 (g * 3 + 2) := rS4 (o := 8) hS (by omega) (by omega)
    rw [r0, r1, r2]
    by_cases d : (0 ≤ x ∧ x ≤ 9) ∧ (0 ≤ y ∧ y ≤ 9) ∧ (0 ≤ w ∧ w ≤ 9)
    · rw [if_pos d, if_neg n10, MG_taste hg c.1 c.2 (by decide) (by decide), MG_taste hg c.1 c.2 (by decide) (by decide), MG_taste hg c.1 c.2 (by decide) (by decide), Option.bind_some, Option.bind_some, Option.bind_some, Int.add_zero]
      by_cases e : S 4 (g * 3) = x ∧ S 4 (g * 3 + 1) = y ∧ S 4 (g * 3 + 2) = w
      · rw [if_neg (show ¬ (((0 ≤ x ∧ x ≤ 9) ∧ (0 ≤ y ∧ y ≤ 9) ∧ (0 ≤ w ∧ w ≤ 9)) ∧ ¬ (S 4 (g * 3) = x ∧ S 4 (g * 3 + 1) = y ∧ S 4 (g * 3 + 2) = w)) from fun t => t.2 e), if_pos p00, if_pos e.1, if_pos e.2.1, if_pos e.2.2]
        exact rs_no h (by decide) (by decide)
      · rw [if_pos (show ((0 ≤ x ∧ x ≤ 9) ∧ (0 ≤ y ∧ y ≤ 9) ∧ (0 ≤ w ∧ w ≤ 9)) ∧ ¬ (S 4 (g * 3) = x ∧ S 4 (g * 3 + 1) = y ∧ S 4 (g * 3 + 2) = w) from ⟨d, e⟩), if_neg n10]
        have em : (if S 4 (g * 3) = x then (if S 4 (g * 3 + 1) = y then (if S 4 (g * 3 + 2) = w then (M_refuses 3 mM).bind (fun r1 => if r1.1 < 0 then some ((0 : Int), r1.2) else some (1, r1.2)) else M_train_b67 g x y w mM) else M_train_b67 g x y w mM) else M_train_b67 g x y w mM) = M_train_b67 g x y w mM := by
          by_cases q1 : S 4 (g * 3) = x
          · rw [if_pos q1]
            by_cases q2 : S 4 (g * 3 + 1) = y
            · rw [if_pos q2, if_neg (fun t => e ⟨q1, q2, t⟩)]
            · rw [if_neg q2]
          · rw [if_neg q1]
        rw [em]
        unfold M_train_b67
        refine wp_bm (rs_remember hr) (fun mC1 ⟨mM1, eM, hr1⟩ => ?_)
        obtain ⟨_, _, _, hg1, _, hZ1, hS1⟩ := id hr1
        rw [eM, Option.bind_some, setT_ok (by omega) (by omega) (by decide), Option.bind_some, wI_ok (x := 3 * g) (by omega) (by omega), wI_ok (x := 3 * g + 1) (by omega) (by omega), wI_ok (x := 3 * g + 2) (by omega) (by omega), wr_ok (by omega) (by omega), wr_ok (by omega) (by omega), wr_ok (by omega) (by omega)]
        have es : sv (upm (upm (upm mC1 12 (g * 3) x) 12 (g * 3 + 1) y) 12 (g * 3 + 2) w) 8 = upm (upm (upm S 4 (g * 3) x) 4 (g * 3 + 1) y) 4 (g * 3 + 2) w := by
          rw [sv_w4 (o := 8) (by omega) (by omega), sv_w4 (o := 8) (by omega) (by omega), sv_w4 (o := 8) (by omega) (by omega), hS1]
        have sm := ((hg1.2.1.w4 (i := g * 3) d.1.1 d.1.2).w4 (i := g * 3 + 1) d.2.1.1 d.2.1.2).w4 (i := g * 3 + 2) d.2.2.1 d.2.2.2
        rw [show 18 * (0 : Int) + g * 3 = 3 * g from by omega, show 18 * (0 : Int) + (g * 3 + 1) = 3 * g + 1 from by omega, show 18 * (0 : Int) + (g * 3 + 2) = 3 * g + 2 from by omega] at sm
        have fa : frA 0 mM1 (upm (upm (upm mM1 32 (3 * g) x) 32 (3 * g + 1) y) 32 (3 * g + 2) w) := by
          refine (((frM.refl.put ?_ ?_ ?_ ?_).put ?_ ?_ ?_ ?_).put ?_ ?_ ?_ ?_).A
          all_goals (try rw [show lay 32 = 18 from rfl]); omega
        exact wp_some (wp_some ⟨rfl, (hr1.now (l := [12]) (((eqO.refl.put (by simp)).put (by simp)).put (by simp)) (by simp) fa es sm).rel⟩)
    · rw [if_neg (show ¬ (((0 ≤ x ∧ x ≤ 9) ∧ (0 ≤ y ∧ y ≤ 9) ∧ (0 ≤ w ∧ w ≤ 9)) ∧ ¬ (S 4 (g * 3) = x ∧ S 4 (g * 3 + 1) = y ∧ S 4 (g * 3 + 2) = w)) from fun t => d t.1), if_neg d, if_pos p00, if_pos p00]
      exact rs_no h (by decide) (by decide)
  · rw [if_neg c, if_pos p00, if_pos p00]
    exact rs_no h (by decide) (by decide)
