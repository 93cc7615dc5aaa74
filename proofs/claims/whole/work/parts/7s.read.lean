/-! statements: likes, may -/
theorem take_c {L : List zC} {j : Nat} (h : j < L.length) : L.take (j + 1) = L.take j ++ [L.getD j dC] := by
  rw [List.take_succ, List.getD_eq_getElem?_getD, List.getElem?_eq_getElem h]
  rfl
theorem tyS_G {so : Int → Int} {G : List zC} : ∀ n : Nat, n ≤ G.length → (∀ j : Nat, j < n → so (j : Int) = (G.getD j dC).2.1) → tyS so n = tyG (G.take n)
  | 0, _, _ => by rw [List.take_zero]; rfl
  | n + 1, h, hj => by
    have ih := tyS_G n (by omega) (fun j q => hj j (by omega))
    show (tyS so n).bind (tst (so (n : Int))) = _
    rw [take_c (by omega), tyG_app, ih, hj n (by omega)]
theorem getD_mem {L : List zC} {j : Nat} (h : j < L.length) : L.getD j dC ∈ L := by
  rw [List.getD_eq_getElem?_getD, List.getElem?_eq_getElem h]
  exact List.getElem_mem h
/-- a statement: also well in the class and a bad sign behind it, which the model has blamed already -/
def ST2 (c : zX) (zd : Nat) (b : Int) (mC mM : zM) (a : Int × zM) (r : zM) : Prop := ST c zd b mC mM a r ∨ (a.1 = 1 ∧ (∃ i m, PC c i a.2 ∧ PM c i m ∧ xm c 4 i = 257 ∧ r 0 8 = 1 ∧ r 0 9 = plc c 1 i) ∧ frC zd mC a.2 ∧ frB b mM r)
theorem RC.go {m m' : zM} (h : RC m m') (h1 : m' 0 4 ≤ 1600) (h0 : 0 ≤ m 0 4) : ∃ n, M_reads_L43 1000000 1 m = M_reads_L43 (n + 2) 1 m' := by
  obtain ⟨k, k1, k2⟩ := h
  have := k2 (1000000 - k)
  rw [show 1000000 - k + k = 1000000 from by omega] at this
  exact ⟨1000000 - k - 2, by rw [this, show 1000000 - k - 2 + 2 = 1000000 - k from by omega]⟩
theorem FN.go {N : Int} {m m' : zM} (h : FN N m m') (h1 : N ≤ 1600) (h0 : 0 ≤ m 0 4) : M_reads_L43 1000000 1 m = some m' := by
  obtain ⟨k, k1, k2⟩ := h
  have := k2 (1000000 - k)
  rw [show 1000000 - k + k = 1000000 from by omega] at this
  exact this
theorem end_L43 {n : Nat} {m m1 : zM} (h43 : m 0 43 = 1) (e : M_goesOn m = some (0, m1)) : M_reads_L43 (n + 2) 1 m = some m1 := by
  show M_reads_B43 _ _ _ = _
  unfold M_reads_B43
  rw [if_neg (by decide), if_neg (by omega), e, Option.bind_some]
  unfold M_reads_b70
  rw [if_pos rfl]
  exact L43_0
theorem FCx.C {q : zQ} {zd : Nat} {m m' : zM} (h : FCx q m m') (hz : qz q = zd + 11 ∨ qz q = zd + 14) : frC zd m m' := ⟨h.1.mono (by unfold zcl; rcases hz with e | e <;> rw [e] <;> simp), h.2.1⟩
/-- what the reading of a sum or a test begins with -/
def m0R (m : zM) (K : Int) : zM := upm (upm (upm (upm (upm (upm (upm (upm (upm m 0 39 0) 0 40 0) 0 42 0) 0 43 0) 19 0 K) 20 0 0) 21 0 1) 23 0 0) 0 39 1
theorem pushes_0 {m : zM} {K : Int} : M_pushes K (upm (upm (upm (upm m 0 39 0) 0 40 0) 0 42 0) 0 43 0) = some (m0R m K) := by
  unfold M_pushes m0R
  have a : upm (upm (upm (upm m 0 39 0) 0 40 0) 0 42 0) 0 43 0 0 39 = 0 := by rw [ru2 (by decide), ru2 (by decide), ru2 (by decide), ru3 rfl rfl]
  have b : upm (upm (upm (upm m 0 39 0) 0 40 0) 0 42 0) 0 43 0 0 42 = 0 := by rw [ru2 (by decide), ru3 rfl rfl]
  generalize upm (upm (upm (upm m 0 39 0) 0 40 0) 0 42 0) 0 43 0 = u at *
  rw [a, wr_ok (by decide) (by decide), ru1 (by decide), a, wr_ok (by decide) (by decide), ru1 (by decide), ru1 (by decide), a, wr_ok (by decide) (by decide), ru1 (by decide), ru1 (by decide), ru1 (by decide), a, ru1 (by decide), ru1 (by decide), ru1 (by decide), b, wr_ok (by decide) (by decide), ru1 (by decide), ru1 (by decide), ru1 (by decide), ru1 (by decide), a, wI_ok (by decide) (by decide), pf_ok]
  rfl
theorem likes_J {c : zX} {zd : Nat} {b i : Int} {mC mM : zM} (hL : LX c) (h : PS c zd b i mC mM) (hk : xm c 4 i = 308) : wp (Pa_likesStatement mC) (fun a => wp (M_reading 0 mM) (fun r => ST2 c zd b mC mM a r)) := by
  obtain ⟨h1, h2, hz⟩ := h
  obtain ⟨z1, z2, z3, z4, z5, z6, z7⟩ := id hz
  have bi := h2.i0 hL
  have lt := h2.lt hL (by omega) (by omega)
  have mono := hL.mono h2.1.1 lt
  obtain ⟨za, zb, zc, zdd⟩ := ZM_4.mp z5
  have hFR := zdd.1
  have eL : mC (zd + 11) 1 = zv mC zd 11 1 := by rw [zv_at (by decide)]
  unfold Pa_likesStatement M_reading
  rw [mro_ok (z := zd) z2 (kdz z1), eL, z3, wI_ok (x := 2 * b) (by omega) (by omega), wI_ok (x := 2 * b + 0) (by omega) (by omega), lt_ok, rd_ok (by omega) (by omega)]
  by_cases c0 : 0 < zv mC zd 11 1
  · have n1 : ¬ mM 13 (2 * b + 0) = -1 := by
      rcases hFR with ⟨e, _⟩ | ⟨_, e, _⟩ <;> omega
    rw [if_pos c0, fail_ok hL h1 h2, Option.bind_some, if_neg n1]
    unfold M_reading_b25
    rw [counts_1 h2.2.2.2.1, Option.bind_some, if_pos rfl]
    have ep : plc c 6 i = mM 0 4 := by
      rw [h2.at]
      exact if_neg (fun x => absurd x.1 (by decide))
    rw [ep]
    exact wp_some (wp_some (Or.inl (ST_bad (FE_fm (by decide)) fmC_K.C fmM_G.B FB.refl)))
  · have n1 : mM 13 (2 * b + 0) = -1 := by
      rcases hFR with ⟨_, e⟩ | ⟨e, _⟩
      · exact e
      · omega
    have len0 : zv mC zd 11 1 = 0 := by
      rcases hFR with ⟨e, _⟩ | ⟨e, _⟩ <;> omega
    rw [if_neg c0, h1.2, wI_ok (x := i + 1) (by omega) (by omega), pf_ok, mro_ok (z := zd) (by rw [ru2 (by decide)]; exact z2) (kdz z1), pf_ok, pf_ok, pf_ok, if_pos n1]
    unfold M_reading_b25
    obtain ⟨r, er, r1, r2, r3⟩ := counts_0 hL h2 lt
    rw [er, Option.bind_some, if_neg (by omega)]
    unfold M_reading_b43
    have g31 := (G_32 r3.G).2.1
    have g32 : r.2 0 32 = b := by rw [(G_32 r3.G).1]; exact z3
    rw [if_neg (show ¬ (0 : Int) = 1 by decide), pf_ok, ru2 (by decide), g31, wr_ok (by omega) (by omega)]
    generalize hlo : mM 0 31 = lo at *
    have hq : QH (c, b, lo, 0, zd + 11) := ⟨hL, z4, z6.1, Or.inl rfl, by show zd + 11 = 66 ∨ zd + 11 = 69 ∨ zd + 11 = 83 ∨ zd + 11 = 86; omega⟩
    have u1 : PM c (i + 1) (upm (upm r.2 0 33 0) 13 (2 * b + 0) lo) := (r2.keep (upm_ne (by decide)) (fun j hj => ru2 (by omega))).u (by decide)
    have B1 : frB b mM (upm (upm r.2 0 33 0) 13 (2 * b + 0) lo) := by
      refine (r3.G.B.put0 (by omega)).put (by decide) (by decide) ?_ ?_ <;> (unfold bay; simp; try omega)
    have V0 : ∀ j, j ≠ 33 → upm (upm r.2 0 33 0) 13 (2 * b + 0) lo 0 j = r.2 0 j := fun j hj => by rw [ru1 (by decide), ru2 hj]
    have V33 : upm (upm r.2 0 33 0) 13 (2 * b + 0) lo 0 33 = 0 := by rw [ru1 (by decide), ru3 rfl rfl]
    have V13 : ∀ j, upm (upm r.2 0 33 0) 13 (2 * b + 0) lo 13 j = sets (mM 13) (2 * b + 0) lo j := fun j => by rw [upm_eq, upm_ne (by decide), r3.G.cell (by decide)]
    have Va : ∀ a, a ≠ 0 → a ≠ 13 → upm (upm r.2 0 33 0) 13 (2 * b + 0) lo a = mM a := fun a h0 h3 => by rw [upm_ne h3, upm_ne h0, r3.G.cell h0]
    generalize upm (upm r.2 0 33 0) 13 (2 * b + 0) lo = s at *
    have er2 : M_reads 0 s = M_reads_L43 1000000 1 (m0R s 0) := by
      unfold M_reads
      rw [if_neg (show ¬ 0 < s 0 8 by rw [u1.2.2.2.1]; decide), pf_ok, pf_ok, pf_ok, pf_ok, if_pos rfl]
      unfold M_reads_b38
      rw [pushes_0, Option.bind_some]
    have W0 : ∀ j, j ≠ 39 → j ≠ 40 → j ≠ 42 → j ≠ 43 → m0R s 0 0 j = s 0 j := fun j a1 a2 a3 a4 => by
      unfold m0R
      rw [ru2 a1, ru1 (by decide), ru1 (by decide), ru1 (by decide), ru1 (by decide), ru2 a4, ru2 a3, ru2 a2, ru2 a1]
    have Wa : ∀ a, a ≠ 0 → a < 19 → m0R s 0 a = s a := fun a a1 a2 => by
      unfold m0R
      rw [upm_ne a1, upm_ne (by omega), upm_ne (by omega), upm_ne (by omega), upm_ne (by omega), upm_ne a1, upm_ne a1, upm_ne a1, upm_ne a1]
    have e19 : m0R s 0 19 (1 - 1) = 0 := by
      unfold m0R
      rw [ru1 (by decide), ru1 (by decide), ru1 (by decide), ru1 (by decide), ru3 rfl (by decide)]
    have e20 : m0R s 0 20 (1 - 1) = 0 := by
      unfold m0R
      rw [ru1 (by decide), ru1 (by decide), ru1 (by decide), ru3 rfl (by decide)]
    have e21 : m0R s 0 21 (1 - 1) = 1 := by
      unfold m0R
      rw [ru1 (by decide), ru1 (by decide), ru3 rfl (by decide)]
    have e23 : m0R s 0 23 (1 - 1) = 0 := by
      unfold m0R
      rw [ru1 (by decide), ru3 rfl (by decide)]
    have X0 : XQ (c, b, lo, 0, zd + 11) 0 (i + 1) 0 [] 0 1 (m0R s 0) := by
      refine ⟨u1.keep (Wa 1 (by decide) (by decide)) (fun j hj => W0 j (by omega) (by omega) (by omega) (by omega)), ⟨?_, ?_, ?_, ?_, ?_, ?_⟩, ?_, fun j hj => by cases hj⟩
      · rw [W0 32 (by decide) (by decide) (by decide) (by decide), V0 32 (by decide)]; exact g32
      · rw [W0 33 (by decide) (by decide) (by decide) (by decide)]; exact V33
      · unfold m0R
        rw [ru3 rfl rfl]
      · unfold m0R
        rw [ru2 (by decide), ru1 (by decide), ru1 (by decide), ru1 (by decide), ru1 (by decide), ru2 (by decide), ru2 (by decide), ru3 rfl rfl]
      · unfold m0R
        rw [ru2 (by decide), ru1 (by decide), ru1 (by decide), ru1 (by decide), ru1 (by decide), ru2 (by decide), ru3 rfl rfl]
      · unfold m0R
        rw [ru2 (by decide), ru1 (by decide), ru1 (by decide), ru1 (by decide), ru1 (by decide), ru3 rfl rfl]
      · rw [W0 31 (by decide) (by decide) (by decide) (by decide), V0 31 (by decide), g31]
        show lo = lo + 0
        omega
    have B2 : frB b mM (m0R s 0) := by
      unfold m0R
      exact ((((((((B1.put0 (by omega)).put0 (by omega)).put0 (by omega)).put0 (by omega)).putX (by decide) (by decide)).putX (by decide) (by decide)).putX (by decide) (by decide)).putX (by decide) (by decide)).put0 (by omega)
    have C0 : XC (c, b, lo, 0, zd + 11) (i + 1) 0 [] (upm (upm (upm (upm mC 1 7 (i + 1)) 1 4 (((zd : Int) + 11) + 1)) 1 5 0) 1 6 0) := by
      refine ⟨⟨by rw [upm_ne (by decide), upm_ne (by decide), upm_ne (by decide), upm_ne (by decide), upm_ne (by decide), upm_ne (by decide), upm_ne (by decide), upm_ne (by decide), upm_ne (by decide), upm_ne (by decide), upm_ne (by decide), upm_ne (by decide), upm_ne (by decide), upm_ne (by decide), upm_ne (by decide), upm_ne (by decide)]; exact h1.1, by rw [ru2 (by decide), ru2 (by decide), ru2 (by decide), ru3 rfl rfl]⟩, ?_, ?_, ru3 rfl rfl, ?_, fun j hj => by cases hj⟩
      · rw [ru2 (by decide), ru2 (by decide), ru3 rfl rfl]
        show (zd : Int) + 11 + 1 = ((zd + 11 : Nat) : Int) + 1
        omega
      · rw [ru2 (by decide), ru3 rfl rfl]
      · rw [ru1 (by show zd + 11 ≠ 1; omega), ru1 (by show zd + 11 ≠ 1; omega), ru1 (by show zd + 11 ≠ 1; omega), ru1 (by show zd + 11 ≠ 1; omega)]
        show mC (zd + 11) 1 = 0
        rw [eL, len0]
    have D0 : frC zd mC (upm (upm (upm (upm mC 1 7 (i + 1)) 1 4 (((zd : Int) + 11) + 1)) 1 5 0) 1 6 0) := (((frC.refl.put1 (by decide)).put1 (by decide)).put1 (by decide)).put1 (by decide)
    have D1 : ∀ a, a ≠ 1 → upm (upm (upm (upm mC 1 7 (i + 1)) 1 4 (((zd : Int) + 11) + 1)) 1 5 0) 1 6 0 a = mC a := fun a ha => by rw [upm_ne ha, upm_ne ha, upm_ne ha, upm_ne ha]
    generalize upm (upm (upm (upm mC 1 7 (i + 1)) 1 4 (((zd : Int) + 11) + 1)) 1 5 0) 1 6 0 = p at *
    have hP : PRE (c, b, lo, 0, zd + 11) 2 (i + 1) 0 [] [] 0 1 p (m0R s 0) := ⟨C0, X0, WG.nil, by decide, by decide, by decide, by decide, by show lo + 0 + 0 + 1 ≤ xm c 5 (i + 1) + 1; omega, by rw [e23]; decide, by rw [e23]; decide⟩
    have hS := (all_ok hq 100 0 (by decide) (by decide)).1 (by decide) p (m0R s 0) (i + 1) [] [] 0 1 hP (Or.inl e23.symm) ⟨by rw [e20]; decide, fun w => by rw [e19] at w; unfold isT at w; omega⟩
    rw [if_neg (show ¬ (0 : Int) = 1 by decide), er2]
    have h04 : 0 ≤ m0R s 0 0 4 := (X0.1.N hL).2.2.2 |> fun t => by rw [(X0.1.N hL).2.1]; exact t
    refine wp_bm hS (fun a ⟨y, yf⟩ => ?_)
    have FC := D0.trans (yf.C (zd := zd) (Or.inl rfl))
    rcases y with ⟨y1, i2, G, Eb, M, mM2, y2, y3, y4, y5, y6, y7⟩ | ⟨y1, mM2, y2, y3, y4⟩
    · have hx := y3.2.1
      have hN2 := hx.1.N hL
      obtain ⟨n, en⟩ := y4.go (by omega) h04
      rw [en]
      refine wp_some ?_
      have f5 : FX b lo (1 - 1) 0 (m0R s 0) mM2 := y5
      by_cases c7 : xm c 4 i2 = 257
      · rw [end_L43 hx.2.1.2.2.2.2.2 (go_bad hx.1 c7), Option.bind_some, wr_ok (by omega) (by omega)]
        refine wp_some (Or.inr ⟨y1, ⟨i2, mM2, y3.1.1, hx.1, c7, ?_, ?_⟩, FC, ?_⟩)
        · rw [ru1 (by decide)]; exact fmM_8
        · rw [ru1 (by decide)]; exact fmM_9
        · refine ((B2.trans f5.1).trans fmM_G.B).put (by decide) (by decide) ?_ ?_ <;> (unfold bay; simp; try omega)
      · have hl := y3.len
        have hroom : lo + (G.length : Int) + 0 + 1 ≤ xm c 5 i2 + 1 := y3.2.2.2.2.2.2.1
        have hEb := y3.2.2.2.2.2.2.2
        have e0 : (1 : Int) - 1 = 1 - 1 := rfl
        have k19 : mM2 19 (1 - 1) = 0 := by rw [y6.1, e19]
        have hd := y3.HD (least := 1) (by decide) (by rw [y6.2.2, e23]; decide) (by rw [y6.2.2, e23]; decide) (Or.inl (by rw [y6.2.2, e23]))
        have e4 := go_422 hx c7 (by decide) (by decide) (fun _ => y7.2.2) (fun t => by rw [e0, y6.1, e19] at t; unfold isT at t; omega)
        rw [k19] at e4
        obtain ⟨v, ev, v1, v2, v3⟩ := b422_end (K := 0) hq.2.1 hq.2.2.1 (by decide) (by decide) (by decide) (by decide) (by decide) hx hd (by show lo + _ + _ ≤ 1600; omega) (by omega) (by decide)
        rw [← y3.2.2.1] at v2
        have eG : M_goesOn mM2 = some (0, v.2) := by rw [e4, ev, ← v1]
        rw [end_L43 hx.2.1.2.2.2.2.2 eG, Option.bind_some, wr_ok (by omega) (by omega)]
        have hN3 := v2.1.N hL
        have c31 : v.2 0 31 = lo + (G.length : Int) := v2.2.2.1
        have FXX : FX b lo (1 - 1) 0 (m0R s 0) v.2 := f5.trans (v3.mono (by decide) (by decide))
        have v32 : v.2 0 32 = b := v2.2.1.1
        have vs : ∀ a, 2 ≤ a → a ≤ 18 → a ≠ 13 → a ≠ 15 → a ≠ 16 → v.2 a = mM a := fun a a1 a2 a3 a4 a5 => by rw [FXX.2.1 a a1 a2 a4 a5, Wa a (by omega) (by omega), Va a (by omega) a3]
        have v13 : ∀ j, v.2 13 j = sets (mM 13) (2 * b + 0) lo j := fun j => by rw [FXX.2.1 13 (by decide) (by decide) (by decide) (by decide), Wa 13 (by decide) (by decide), V13]
        have v15 : ∀ j, j < 1600 * b + lo → v.2 15 j = mM 15 j ∧ v.2 16 j = mM 16 j := fun j hj => by rw [(FXX.2.2.1 j hj).1, (FXX.2.2.1 j hj).2, Wa 15 (by decide) (by decide), Wa 16 (by decide) (by decide), Va 15 (by decide) (by decide), Va 16 (by decide) (by decide)]; exact ⟨rfl, rfl⟩
        have hWG : WG 6 G [false] := y3.2.2.2.2.2.1
        have G0 : 0 < G.length := by
          cases G with
          | nil => cases hWG.1
          | cons x L => exact Nat.succ_pos _
        have Zo : ∀ k, k ≠ 11 → k ≠ 11 + 1 → zv a.2 zd k = zv mC zd k := fun k k1 k2 => by
          unfold zv
          by_cases ck : k ≤ 15 ∧ k ≠ 13
          · rw [if_pos ck, if_pos ck, yf.1 (zd + k) (by show zd + k ∉ [1, zd + 11, zd + 11 + 1]; simp; omega), D1 _ (by omega)]
          · rw [if_neg ck, if_neg ck]
        have cC : a.2 (zd + 11) 1 = (G.length : Int) ∧ ∀ j : Nat, j < G.length → a.2 (zd + 11 + 1) (j : Int) = (G.getD j dC).1 := y3.1.2.2.2.2
        have cM : ∀ j : Nat, j < G.length → v.2 15 (1600 * b + lo + (j : Int)) = (G.getD j dC).2.1 ∧ v.2 16 (1600 * b + lo + (j : Int)) = (G.getD j dC).2.2 := v2.2.2.2
        have NEW : FR (zv a.2 zd 11 1) (zv a.2 zd (11 + 1)) (upm v.2 14 (2 * b + 0) (v.2 0 31)) b 0 false 6 := by
          have q13 : upm v.2 14 (2 * b + 0) (v.2 0 31) 13 (2 * b + 0) = lo := by rw [ru1 (by decide), v13, sets_eq]
          have q14 : upm v.2 14 (2 * b + 0) (v.2 0 31) 14 (2 * b + 0) = lo + (G.length : Int) := by rw [ru3 rfl rfl, c31]
          have q15 : ∀ j, upm v.2 14 (2 * b + 0) (v.2 0 31) 15 j = v.2 15 j ∧ upm v.2 14 (2 * b + 0) (v.2 0 31) 16 j = v.2 16 j := fun j => ⟨ru1 (by decide), ru1 (by decide)⟩
          have tS : ∀ n : Nat, n ≤ G.length → tyS (fun j => upm v.2 14 (2 * b + 0) (v.2 0 31) 15 (1600 * b + lo + j)) n = tyG (G.take n) := fun n hn => tyS_G n hn (fun j hj => by rw [(q15 _).1]; exact (cM j (by omega)).1)
          unfold FR
          rw [q13, q14, zv_at (by decide), cC.1]
          refine Or.inr ⟨by omega, by omega, rfl, by omega, fun j j0 j1 => ?_, ?_, fun j T hj hT => ?_⟩
          · have hj : j.toNat < G.length := by omega
            have e := hWG.2.2 _ (getD_mem hj)
            have a1 := cM j.toNat hj
            have a2 := cC.2 j.toNat hj
            rw [show ((j.toNat : Nat) : Int) = j from by omega] at a1 a2
            rw [(q15 _).1, (q15 _).2, a1.1, a1.2, zv_at (by decide), show zd + (11 + 1) = zd + 11 + 1 from by omega, a2]
            exact e
          · rw [show ((G.length : Int)).toNat = G.length from by omega, tS _ (Nat.le_refl _), List.take_of_length_le (Nat.le_refl _)]
            exact hWG.1
          · rw [tS j (by omega)] at hT
            exact hWG.2.1 j T (by omega) hT
        have OLD : FR (zv a.2 zd 14 1) (zv a.2 zd (14 + 1)) (upm v.2 14 (2 * b + 0) (v.2 0 31)) b 1 true 9 := by
          have ho := zdd.2
          rw [Zo 14 (by decide) (by decide), Zo (14 + 1) (by decide) (by decide)]
          have p13 : upm v.2 14 (2 * b + 0) (v.2 0 31) 13 (2 * b + 1) = mM 13 (2 * b + 1) := by rw [ru1 (by decide), v13, sets_ne (by omega)]
          have p14 : upm v.2 14 (2 * b + 0) (v.2 0 31) 14 (2 * b + 1) = mM 14 (2 * b + 1) := by rw [ru2 (by omega), vs 14 (by decide) (by decide) (by decide) (by decide) (by decide)]
          unfold FR at ho ⊢
          rw [p13, p14]
          rcases ho with ho | ⟨o1, o2, o3, o4, o5, o6, o7⟩
          · exact Or.inl ho
          · have hz7 := z7 1 (by decide) (by omega)
            have low : ∀ j, j < zv mC zd 14 1 → upm v.2 14 (2 * b + 0) (v.2 0 31) 15 (1600 * b + mM 13 (2 * b + 1) + j) = mM 15 (1600 * b + mM 13 (2 * b + 1) + j) ∧ upm v.2 14 (2 * b + 0) (v.2 0 31) 16 (1600 * b + mM 13 (2 * b + 1) + j) = mM 16 (1600 * b + mM 13 (2 * b + 1) + j) := fun j hj => by
              rw [ru1 (by decide), ru1 (by decide)]
              exact v15 _ (by omega)
            have tE : ∀ n : Nat, (n : Int) ≤ zv mC zd 14 1 → tyS (fun j => upm v.2 14 (2 * b + 0) (v.2 0 31) 15 (1600 * b + mM 13 (2 * b + 1) + j)) n = tyS (fun j => mM 15 (1600 * b + mM 13 (2 * b + 1) + j)) n := by
              intro n
              induction n with
              | zero => intro _; rfl
              | succ n ih =>
                intro hn
                show (tyS _ n).bind (tst (upm v.2 14 (2 * b + 0) (v.2 0 31) 15 (1600 * b + mM 13 (2 * b + 1) + (n : Int)))) = (tyS _ n).bind (tst (mM 15 (1600 * b + mM 13 (2 * b + 1) + (n : Int))))
                rw [ih (by omega), (low (n : Int) (by omega)).1]
            refine Or.inr ⟨o1, o2, o3, o4, fun j j0 j1 => ?_, ?_, fun j T hj hT => ?_⟩
            · rw [(low j j1).1, (low j j1).2]
              exact o5 j j0 j1
            · rw [tE _ (by omega)]
              exact o6
            · rw [tE _ hj] at hT
              exact o7 j T hj hT
        refine wp_some (Or.inl ⟨Or.inl ⟨y1, i2, y3.1.1, v2.1.u (by decide), z1, ?_, ?_, z4, ?_, ⟨?_, ?_⟩, fun k hk => ?_⟩, FC, ?_⟩)
        · rw [FC.2]; exact z2
        · rw [ru1 (by decide)]; exact v32
        · rw [ZM_4]
          refine ⟨za.cong (by rw [Zo 0 (by decide) (by decide)]) (fun k _ _ => Zo k (by omega) (by omega)) (fun a ha => by rw [upm_ne (by omega)]; exact vs a (by omega) (by omega) (by omega) (by omega) (by omega)), zb.cong (by rw [Zo 0 (by decide) (by decide)]) (fun k _ _ => Zo k (by omega) (by omega)) (fun a ha => by rw [upm_ne (by omega)]; exact vs a (by omega) (by omega) (by omega) (by omega) (by omega)), zc.cong (fun j _ => by rw [Zo 0 (by decide) (by decide)]) (by rw [upm_ne (by decide)]; exact vs 12 (by decide) (by decide) (by decide) (by decide) (by decide)), NEW, OLD⟩
        · rw [ru1 (by decide), c31]; omega
        · rw [ru1 (by decide), c31]; omega
        · rw [show upm v.2 14 (2 * b + 0) (v.2 0 31) 13 (2 * b + k) = v.2 13 (2 * b + k) from ru1 (by decide), show upm v.2 14 (2 * b + 0) (v.2 0 31) 0 31 = lo + (G.length : Int) from (ru1 (by decide)).trans c31]
          by_cases ek : k = 0
          · subst ek
            intro _
            rw [ru3 rfl rfl, c31]
            exact Int.le_refl _
          · intro hne
            rw [v13, sets_ne (by omega)] at hne
            rw [ru2 (by omega), vs 14 (by decide) (by decide) (by decide) (by decide) (by decide)]
            have := z7 k hk hne
            omega
        · refine ((B2.trans FXX.1)).put (by decide) (by decide) ?_ ?_ <;> (unfold bay; simp; try omega)
    · rw [y2.go hL.2.2 h04]
      refine wp_some ?_
      rw [Option.bind_some, wr_ok (by omega) (by omega), show a = (0, a.2) from by rw [← y1]]
      refine wp_some (Or.inl (ST_bad (q := mM2) y3 FC (B2.trans y4) (FB.refl.put (by decide) (by decide) ?_ ?_))) <;> (unfold bay; simp; try omega)
theorem may_J {c : zX} {zd : Nat} {b i : Int} {mC mM : zM} (hL : LX c) (h : PS c zd b i mC mM) (hk : xm c 4 i = 309) : wp (Pa_mayStatement mC) (fun a => wp (M_reading 1 mM) (fun r => ST2 c zd b mC mM a r)) := by
  obtain ⟨h1, h2, hz⟩ := h
  obtain ⟨z1, z2, z3, z4, z5, z6, z7⟩ := id hz
  have bi := h2.i0 hL
  have lt := h2.lt hL (by omega) (by omega)
  have mono := hL.mono h2.1.1 lt
  obtain ⟨za, zb, zc, zdd⟩ := ZM_4.mp z5
  have hFR := zdd.2
  have eL : mC (zd + 14) 1 = zv mC zd 14 1 := by rw [zv_at (by decide)]
  unfold Pa_mayStatement M_reading
  rw [mro_ok (z := zd) z2 (kdz z1), eL, z3, wI_ok (x := 2 * b) (by omega) (by omega), wI_ok (x := 2 * b + 1) (by omega) (by omega), lt_ok, rd_ok (by omega) (by omega)]
  by_cases c0 : 0 < zv mC zd 14 1
  · have n1 : ¬ mM 13 (2 * b + 1) = -1 := by
      rcases hFR with ⟨e, _⟩ | ⟨_, e, _⟩ <;> omega
    rw [if_pos c0, fail_ok hL h1 h2, Option.bind_some, if_neg n1]
    unfold M_reading_b25
    rw [counts_1 h2.2.2.2.1, Option.bind_some, if_pos rfl]
    have ep : plc c 6 i = mM 0 4 := by
      rw [h2.at]
      exact if_neg (fun x => absurd x.1 (by decide))
    rw [ep]
    exact wp_some (wp_some (Or.inl (ST_bad (FE_fm (by decide)) fmC_K.C fmM_G.B FB.refl)))
  · have n1 : mM 13 (2 * b + 1) = -1 := by
      rcases hFR with ⟨_, e⟩ | ⟨e, _⟩
      · exact e
      · omega
    have len0 : zv mC zd 14 1 = 0 := by
      rcases hFR with ⟨e, _⟩ | ⟨e, _⟩ <;> omega
    rw [if_neg c0, h1.2, wI_ok (x := i + 1) (by omega) (by omega), pf_ok, mro_ok (z := zd) (by rw [ru2 (by decide)]; exact z2) (kdz z1), pf_ok, pf_ok, pf_ok, if_pos n1]
    unfold M_reading_b25
    obtain ⟨r, er, r1, r2, r3⟩ := counts_0 hL h2 lt
    rw [er, Option.bind_some, if_neg (by omega)]
    unfold M_reading_b43
    have g31 := (G_32 r3.G).2.1
    have g32 : r.2 0 32 = b := by rw [(G_32 r3.G).1]; exact z3
    rw [if_pos rfl, pf_ok, ru2 (by decide), g31, wr_ok (by omega) (by omega)]
    generalize hlo : mM 0 31 = lo at *
    have hq : QH (c, b, lo, 1, zd + 14) := ⟨hL, z4, z6.1, Or.inr rfl, by show zd + 14 = 66 ∨ zd + 14 = 69 ∨ zd + 14 = 83 ∨ zd + 14 = 86; omega⟩
    have u1 : PM c (i + 1) (upm (upm r.2 0 33 1) 13 (2 * b + 1) lo) := (r2.keep (upm_ne (by decide)) (fun j hj => ru2 (by omega))).u (by decide)
    have B1 : frB b mM (upm (upm r.2 0 33 1) 13 (2 * b + 1) lo) := by
      refine (r3.G.B.put0 (by omega)).put (by decide) (by decide) ?_ ?_ <;> (unfold bay; simp; try omega)
    have V0 : ∀ j, j ≠ 33 → upm (upm r.2 0 33 1) 13 (2 * b + 1) lo 0 j = r.2 0 j := fun j hj => by rw [ru1 (by decide), ru2 hj]
    have V33 : upm (upm r.2 0 33 1) 13 (2 * b + 1) lo 0 33 = 1 := by rw [ru1 (by decide), ru3 rfl rfl]
    have V13 : ∀ j, upm (upm r.2 0 33 1) 13 (2 * b + 1) lo 13 j = sets (mM 13) (2 * b + 1) lo j := fun j => by rw [upm_eq, upm_ne (by decide), r3.G.cell (by decide)]
    have Va : ∀ a, a ≠ 0 → a ≠ 13 → upm (upm r.2 0 33 1) 13 (2 * b + 1) lo a = mM a := fun a h0 h3 => by rw [upm_ne h3, upm_ne h0, r3.G.cell h0]
    generalize upm (upm r.2 0 33 1) 13 (2 * b + 1) lo = s at *
    have er2 : M_reads 1 s = M_reads_L43 1000000 1 (m0R s 1) := by
      unfold M_reads
      rw [if_neg (show ¬ 0 < s 0 8 by rw [u1.2.2.2.1]; decide), pf_ok, pf_ok, pf_ok, pf_ok, if_neg (show ¬ (1 : Int) = 0 by decide)]
      unfold M_reads_b38
      rw [pushes_0, Option.bind_some]
    have W0 : ∀ j, j ≠ 39 → j ≠ 40 → j ≠ 42 → j ≠ 43 → m0R s 1 0 j = s 0 j := fun j a1 a2 a3 a4 => by
      unfold m0R
      rw [ru2 a1, ru1 (by decide), ru1 (by decide), ru1 (by decide), ru1 (by decide), ru2 a4, ru2 a3, ru2 a2, ru2 a1]
    have Wa : ∀ a, a ≠ 0 → a < 19 → m0R s 1 a = s a := fun a a1 a2 => by
      unfold m0R
      rw [upm_ne a1, upm_ne (by omega), upm_ne (by omega), upm_ne (by omega), upm_ne (by omega), upm_ne a1, upm_ne a1, upm_ne a1, upm_ne a1]
    have e19 : m0R s 1 19 (1 - 1) = 1 := by
      unfold m0R
      rw [ru1 (by decide), ru1 (by decide), ru1 (by decide), ru1 (by decide), ru3 rfl (by decide)]
    have e20 : m0R s 1 20 (1 - 1) = 0 := by
      unfold m0R
      rw [ru1 (by decide), ru1 (by decide), ru1 (by decide), ru3 rfl (by decide)]
    have e21 : m0R s 1 21 (1 - 1) = 1 := by
      unfold m0R
      rw [ru1 (by decide), ru1 (by decide), ru3 rfl (by decide)]
    have e23 : m0R s 1 23 (1 - 1) = 0 := by
      unfold m0R
      rw [ru1 (by decide), ru3 rfl (by decide)]
    have X0 : XQ (c, b, lo, 1, zd + 14) 0 (i + 1) 0 [] 0 1 (m0R s 1) := by
      refine ⟨u1.keep (Wa 1 (by decide) (by decide)) (fun j hj => W0 j (by omega) (by omega) (by omega) (by omega)), ⟨?_, ?_, ?_, ?_, ?_, ?_⟩, ?_, fun j hj => by cases hj⟩
      · rw [W0 32 (by decide) (by decide) (by decide) (by decide), V0 32 (by decide)]; exact g32
      · rw [W0 33 (by decide) (by decide) (by decide) (by decide)]; exact V33
      · unfold m0R
        rw [ru3 rfl rfl]
      · unfold m0R
        rw [ru2 (by decide), ru1 (by decide), ru1 (by decide), ru1 (by decide), ru1 (by decide), ru2 (by decide), ru2 (by decide), ru3 rfl rfl]
      · unfold m0R
        rw [ru2 (by decide), ru1 (by decide), ru1 (by decide), ru1 (by decide), ru1 (by decide), ru2 (by decide), ru3 rfl rfl]
      · unfold m0R
        rw [ru2 (by decide), ru1 (by decide), ru1 (by decide), ru1 (by decide), ru1 (by decide), ru3 rfl rfl]
      · rw [W0 31 (by decide) (by decide) (by decide) (by decide), V0 31 (by decide), g31]
        show lo = lo + 0
        omega
    have B2 : frB b mM (m0R s 1) := by
      unfold m0R
      exact ((((((((B1.put0 (by omega)).put0 (by omega)).put0 (by omega)).put0 (by omega)).putX (by decide) (by decide)).putX (by decide) (by decide)).putX (by decide) (by decide)).putX (by decide) (by decide)).put0 (by omega)
    have C0 : XC (c, b, lo, 1, zd + 14) (i + 1) 0 [] (upm (upm (upm (upm mC 1 7 (i + 1)) 1 4 (((zd : Int) + 14) + 1)) 1 5 1) 1 6 0) := by
      refine ⟨⟨by rw [upm_ne (by decide), upm_ne (by decide), upm_ne (by decide), upm_ne (by decide), upm_ne (by decide), upm_ne (by decide), upm_ne (by decide), upm_ne (by decide), upm_ne (by decide), upm_ne (by decide), upm_ne (by decide), upm_ne (by decide), upm_ne (by decide), upm_ne (by decide), upm_ne (by decide), upm_ne (by decide)]; exact h1.1, by rw [ru2 (by decide), ru2 (by decide), ru2 (by decide), ru3 rfl rfl]⟩, ?_, ?_, ru3 rfl rfl, ?_, fun j hj => by cases hj⟩
      · rw [ru2 (by decide), ru2 (by decide), ru3 rfl rfl]
        show (zd : Int) + 14 + 1 = ((zd + 14 : Nat) : Int) + 1
        omega
      · rw [ru2 (by decide), ru3 rfl rfl]
      · rw [ru1 (by show zd + 14 ≠ 1; omega), ru1 (by show zd + 14 ≠ 1; omega), ru1 (by show zd + 14 ≠ 1; omega), ru1 (by show zd + 14 ≠ 1; omega)]
        show mC (zd + 14) 1 = 0
        rw [eL, len0]
    have D0 : frC zd mC (upm (upm (upm (upm mC 1 7 (i + 1)) 1 4 (((zd : Int) + 14) + 1)) 1 5 1) 1 6 0) := (((frC.refl.put1 (by decide)).put1 (by decide)).put1 (by decide)).put1 (by decide)
    have D1 : ∀ a, a ≠ 1 → upm (upm (upm (upm mC 1 7 (i + 1)) 1 4 (((zd : Int) + 14) + 1)) 1 5 1) 1 6 0 a = mC a := fun a ha => by rw [upm_ne ha, upm_ne ha, upm_ne ha, upm_ne ha]
    generalize upm (upm (upm (upm mC 1 7 (i + 1)) 1 4 (((zd : Int) + 14) + 1)) 1 5 1) 1 6 0 = p at *
    have hP : PRE (c, b, lo, 1, zd + 14) 5 (i + 1) 0 [] [] 0 1 p (m0R s 1) := ⟨C0, X0, WG.nil, by decide, by decide, by decide, by decide, by show lo + 0 + 0 + 1 ≤ xm c 5 (i + 1) + 1; omega, by rw [e23]; decide, by rw [e23]; decide⟩
    have hS := (all_ok hq 100 0 (by decide) (by decide)).2.2.2.2.1 (by decide) p (m0R s 1) (i + 1) [] [] 0 1 hP (Or.inl e23.symm) ⟨by rw [e19]; exact Or.inl rfl, e20, by rw [e21]; decide⟩
    rw [if_pos rfl, er2]
    have h04 : 0 ≤ m0R s 1 0 4 := (X0.1.N hL).2.2.2 |> fun t => by rw [(X0.1.N hL).2.1]; exact t
    refine wp_bm hS (fun a ⟨y, yf⟩ => ?_)
    have FC := D0.trans (yf.C (zd := zd) (Or.inr rfl))
    rcases y with ⟨y1, i2, G, Eb, M, mM2, y2, y3, y4, y5, y6, y7⟩ | ⟨y1, mM2, y2, y3, y4⟩
    · have hx := y3.2.1
      have hN2 := hx.1.N hL
      obtain ⟨n, en⟩ := y4.go (by omega) h04
      rw [en]
      refine wp_some ?_
      have f5 : FX b lo (1 - 1) 0 (m0R s 1) mM2 := y5
      by_cases c7 : xm c 4 i2 = 257
      · rw [end_L43 hx.2.1.2.2.2.2.2 (go_bad hx.1 c7), Option.bind_some, wr_ok (by omega) (by omega)]
        refine wp_some (Or.inr ⟨y1, ⟨i2, mM2, y3.1.1, hx.1, c7, ?_, ?_⟩, FC, ?_⟩)
        · rw [ru1 (by decide)]; exact fmM_8
        · rw [ru1 (by decide)]; exact fmM_9
        · refine ((B2.trans f5.1).trans fmM_G.B).put (by decide) (by decide) ?_ ?_ <;> (unfold bay; simp; try omega)
      · have hl := y3.len
        have hroom : lo + (G.length : Int) + 0 + 1 ≤ xm c 5 i2 + 1 := y3.2.2.2.2.2.2.1
        have hEb := y3.2.2.2.2.2.2.2
        have e0 : (1 : Int) - 1 = 1 - 1 := rfl
        have k19 : mM2 19 (1 - 1) = 1 := by rw [y6.1, e19]
        have hd := y3.HD (least := 1) (by decide) (by rw [y6.2.2, e23]; decide) (by rw [y6.2.2, e23]; decide) (Or.inl (by rw [y6.2.2, e23]))
        have e4 := go_422 hx c7 (by decide) (by decide) y7.2.1 (fun _ => ⟨y7.1, y7.2.2⟩)
        rw [k19] at e4
        obtain ⟨v, ev, v1, v2, v3⟩ := b422_end (K := 1) hq.2.1 hq.2.2.1 (by decide) (by decide) (by decide) (by decide) (by decide) hx hd (by show lo + _ + _ ≤ 1600; omega) (by omega) (by decide)
        rw [← y3.2.2.1] at v2
        have eG : M_goesOn mM2 = some (0, v.2) := by rw [e4, ev, ← v1]
        rw [end_L43 hx.2.1.2.2.2.2.2 eG, Option.bind_some, wr_ok (by omega) (by omega)]
        have hN3 := v2.1.N hL
        have c31 : v.2 0 31 = lo + (G.length : Int) := v2.2.2.1
        have FXX : FX b lo (1 - 1) 0 (m0R s 1) v.2 := f5.trans (v3.mono (by decide) (by decide))
        have v32 : v.2 0 32 = b := v2.2.1.1
        have vs : ∀ a, 2 ≤ a → a ≤ 18 → a ≠ 13 → a ≠ 15 → a ≠ 16 → v.2 a = mM a := fun a a1 a2 a3 a4 a5 => by rw [FXX.2.1 a a1 a2 a4 a5, Wa a (by omega) (by omega), Va a (by omega) a3]
        have v13 : ∀ j, v.2 13 j = sets (mM 13) (2 * b + 1) lo j := fun j => by rw [FXX.2.1 13 (by decide) (by decide) (by decide) (by decide), Wa 13 (by decide) (by decide), V13]
        have v15 : ∀ j, j < 1600 * b + lo → v.2 15 j = mM 15 j ∧ v.2 16 j = mM 16 j := fun j hj => by rw [(FXX.2.2.1 j hj).1, (FXX.2.2.1 j hj).2, Wa 15 (by decide) (by decide), Wa 16 (by decide) (by decide), Va 15 (by decide) (by decide), Va 16 (by decide) (by decide)]; exact ⟨rfl, rfl⟩
        have hWG : WG 9 G [true] := y3.2.2.2.2.2.1
        have G0 : 0 < G.length := by
          cases G with
          | nil => cases hWG.1
          | cons x L => exact Nat.succ_pos _
        have Zo : ∀ k, k ≠ 14 → k ≠ 14 + 1 → zv a.2 zd k = zv mC zd k := fun k k1 k2 => by
          unfold zv
          by_cases ck : k ≤ 15 ∧ k ≠ 13
          · rw [if_pos ck, if_pos ck, yf.1 (zd + k) (by show zd + k ∉ [1, zd + 14, zd + 14 + 1]; simp; omega), D1 _ (by omega)]
          · rw [if_neg ck, if_neg ck]
        have cC : a.2 (zd + 14) 1 = (G.length : Int) ∧ ∀ j : Nat, j < G.length → a.2 (zd + 14 + 1) (j : Int) = (G.getD j dC).1 := y3.1.2.2.2.2
        have cM : ∀ j : Nat, j < G.length → v.2 15 (1600 * b + lo + (j : Int)) = (G.getD j dC).2.1 ∧ v.2 16 (1600 * b + lo + (j : Int)) = (G.getD j dC).2.2 := v2.2.2.2
        have NEW : FR (zv a.2 zd 14 1) (zv a.2 zd (14 + 1)) (upm v.2 14 (2 * b + 1) (v.2 0 31)) b 1 true 9 := by
          have q13 : upm v.2 14 (2 * b + 1) (v.2 0 31) 13 (2 * b + 1) = lo := by rw [ru1 (by decide), v13, sets_eq]
          have q14 : upm v.2 14 (2 * b + 1) (v.2 0 31) 14 (2 * b + 1) = lo + (G.length : Int) := by rw [ru3 rfl rfl, c31]
          have q15 : ∀ j, upm v.2 14 (2 * b + 1) (v.2 0 31) 15 j = v.2 15 j ∧ upm v.2 14 (2 * b + 1) (v.2 0 31) 16 j = v.2 16 j := fun j => ⟨ru1 (by decide), ru1 (by decide)⟩
          have tS : ∀ n : Nat, n ≤ G.length → tyS (fun j => upm v.2 14 (2 * b + 1) (v.2 0 31) 15 (1600 * b + lo + j)) n = tyG (G.take n) := fun n hn => tyS_G n hn (fun j hj => by rw [(q15 _).1]; exact (cM j (by omega)).1)
          unfold FR
          rw [q13, q14, zv_at (by decide), cC.1]
          refine Or.inr ⟨by omega, by omega, rfl, by omega, fun j j0 j1 => ?_, ?_, fun j T hj hT => ?_⟩
          · have hj : j.toNat < G.length := by omega
            have e := hWG.2.2 _ (getD_mem hj)
            have a1 := cM j.toNat hj
            have a2 := cC.2 j.toNat hj
            rw [show ((j.toNat : Nat) : Int) = j from by omega] at a1 a2
            rw [(q15 _).1, (q15 _).2, a1.1, a1.2, zv_at (by decide), show zd + (14 + 1) = zd + 14 + 1 from by omega, a2]
            exact e
          · rw [show ((G.length : Int)).toNat = G.length from by omega, tS _ (Nat.le_refl _), List.take_of_length_le (Nat.le_refl _)]
            exact hWG.1
          · rw [tS j (by omega)] at hT
            exact hWG.2.1 j T (by omega) hT
        have OLD : FR (zv a.2 zd 11 1) (zv a.2 zd (11 + 1)) (upm v.2 14 (2 * b + 1) (v.2 0 31)) b 0 false 6 := by
          have ho := zdd.1
          rw [Zo 11 (by decide) (by decide), Zo (11 + 1) (by decide) (by decide)]
          have p13 : upm v.2 14 (2 * b + 1) (v.2 0 31) 13 (2 * b + 0) = mM 13 (2 * b + 0) := by rw [ru1 (by decide), v13, sets_ne (by omega)]
          have p14 : upm v.2 14 (2 * b + 1) (v.2 0 31) 14 (2 * b + 0) = mM 14 (2 * b + 0) := by rw [ru2 (by omega), vs 14 (by decide) (by decide) (by decide) (by decide) (by decide)]
          unfold FR at ho ⊢
          rw [p13, p14]
          rcases ho with ho | ⟨o1, o2, o3, o4, o5, o6, o7⟩
          · exact Or.inl ho
          · have hz7 := z7 0 (by decide) (by omega)
            have low : ∀ j, j < zv mC zd 11 1 → upm v.2 14 (2 * b + 1) (v.2 0 31) 15 (1600 * b + mM 13 (2 * b + 0) + j) = mM 15 (1600 * b + mM 13 (2 * b + 0) + j) ∧ upm v.2 14 (2 * b + 1) (v.2 0 31) 16 (1600 * b + mM 13 (2 * b + 0) + j) = mM 16 (1600 * b + mM 13 (2 * b + 0) + j) := fun j hj => by
              rw [ru1 (by decide), ru1 (by decide)]
              exact v15 _ (by omega)
            have tE : ∀ n : Nat, (n : Int) ≤ zv mC zd 11 1 → tyS (fun j => upm v.2 14 (2 * b + 1) (v.2 0 31) 15 (1600 * b + mM 13 (2 * b + 0) + j)) n = tyS (fun j => mM 15 (1600 * b + mM 13 (2 * b + 0) + j)) n := by
              intro n
              induction n with
              | zero => intro _; rfl
              | succ n ih =>
                intro hn
                show (tyS _ n).bind (tst (upm v.2 14 (2 * b + 1) (v.2 0 31) 15 (1600 * b + mM 13 (2 * b + 0) + (n : Int)))) = (tyS _ n).bind (tst (mM 15 (1600 * b + mM 13 (2 * b + 0) + (n : Int))))
                rw [ih (by omega), (low (n : Int) (by omega)).1]
            refine Or.inr ⟨o1, o2, o3, o4, fun j j0 j1 => ?_, ?_, fun j T hj hT => ?_⟩
            · rw [(low j j1).1, (low j j1).2]
              exact o5 j j0 j1
            · rw [tE _ (by omega)]
              exact o6
            · rw [tE _ hj] at hT
              exact o7 j T hj hT
        refine wp_some (Or.inl ⟨Or.inl ⟨y1, i2, y3.1.1, v2.1.u (by decide), z1, ?_, ?_, z4, ?_, ⟨?_, ?_⟩, fun k hk => ?_⟩, FC, ?_⟩)
        · rw [FC.2]; exact z2
        · rw [ru1 (by decide)]; exact v32
        · rw [ZM_4]
          refine ⟨za.cong (by rw [Zo 0 (by decide) (by decide)]) (fun k _ _ => Zo k (by omega) (by omega)) (fun a ha => by rw [upm_ne (by omega)]; exact vs a (by omega) (by omega) (by omega) (by omega) (by omega)), zb.cong (by rw [Zo 0 (by decide) (by decide)]) (fun k _ _ => Zo k (by omega) (by omega)) (fun a ha => by rw [upm_ne (by omega)]; exact vs a (by omega) (by omega) (by omega) (by omega) (by omega)), zc.cong (fun j _ => by rw [Zo 0 (by decide) (by decide)]) (by rw [upm_ne (by decide)]; exact vs 12 (by decide) (by decide) (by decide) (by decide) (by decide)), OLD, NEW⟩
        · rw [ru1 (by decide), c31]; omega
        · rw [ru1 (by decide), c31]; omega
        · rw [show upm v.2 14 (2 * b + 1) (v.2 0 31) 13 (2 * b + k) = v.2 13 (2 * b + k) from ru1 (by decide), show upm v.2 14 (2 * b + 1) (v.2 0 31) 0 31 = lo + (G.length : Int) from (ru1 (by decide)).trans c31]
          by_cases ek : k = 1
          · subst ek
            intro _
            rw [ru3 rfl rfl, c31]
            exact Int.le_refl _
          · intro hne
            rw [v13, sets_ne (by omega)] at hne
            rw [ru2 (by omega), vs 14 (by decide) (by decide) (by decide) (by decide) (by decide)]
            have := z7 k hk hne
            omega
        · refine ((B2.trans FXX.1)).put (by decide) (by decide) ?_ ?_ <;> (unfold bay; simp; try omega)
    · rw [y2.go hL.2.2 h04]
      refine wp_some ?_
      rw [Option.bind_some, wr_ok (by omega) (by omega), show a = (0, a.2) from by rw [← y1]]
      refine wp_some (Or.inl (ST_bad (q := mM2) y3 FC (B2.trans y4) (FB.refl.put (by decide) (by decide) ?_ ?_))) <;> (unfold bay; simp; try omega)
