/-! statements: a beast -/
theorem ones_L {K : zM → Option zM} {m : zM} {v : Int} (v0 : 0 ≤ v) (v1 : v < 12) : M_beasting_L133 K 1000000 v 0 m = K (upm (upm (upm m 6 (3 * v) 1) 6 (3 * v + 1) 1) 6 (3 * v + 2) 1) := by
  have st : ∀ (n : Nat) (k : Int) (s : zM), 0 ≤ k → k < 3 → M_beasting_L133 K (n + 1) v k s = M_beasting_L133 K n v (k + 1) (upm s 6 (3 * v + k) 1) := by
    intro n k s k0 k1
    show M_beasting_B133 _ _ _ _ _ = _
    unfold M_beasting_B133
    rw [if_pos k1, wI_ok (x := 3 * v) (by omega) (by omega), wI_ok (x := 3 * v + k) (by omega) (by omega), wr_ok (by omega) (by omega), wI_ok (by omega) (by omega)]
  rw [st 999999 0 m (by decide) (by decide), st 999998 (0 + 1) _ (by decide) (by decide), st 999997 (0 + 1 + 1) _ (by decide) (by decide)]
  show M_beasting_B133 _ _ _ _ _ = _
  unfold M_beasting_B133
  rw [if_neg (by decide), Int.add_zero]
  rfl
theorem bay_r {b v : Int} {a : Nat} (h : bay a * b ≤ v) : bay a * b ≤ v := h
def bK : zM → Option zM := fun m13 => (if m13 0 8 = 0 then
  rd 2 2 (m13 0 32) m13 (fun y17 =>
  wr 2 2 (m13 0 32) (wI (y17 + 1)) m13 (fun m18 =>
  some m18))
  else some m13)
theorem bF4 {m : zM} {b v : Int} (h : 0 < m 0 8) (b1 : b = 0 ∨ b = 1) (v0 : 6 * b ≤ v) (v1 : v < 6 * b + 6) : wp (M_beasting_L133 bK 1000000 v 0 m) (fun r => FB b m r) := by
  rw [ones_L (by omega) (by omega)]
  unfold bK
  rw [if_neg (by rw [ru1 (by decide), ru1 (by decide), ru1 (by decide)]; omega)]
  refine wp_some ((((FB.refl.put (by decide) (by decide) ?_ ?_).put (by decide) (by decide) ?_ ?_).put (by decide) (by decide) ?_ ?_)) <;> (unfold bay; simp; omega)
theorem bF3 {m : zM} {b v : Int} (h : 0 < m 0 8) (b1 : b = 0 ∨ b = 1) (v0 : 6 * b ≤ v) (v1 : v < 6 * b + 6) : wp ((M_number 0 99 m).bind (fun r8 => wr 5 12 v r8.1 r8.2 (fun m11 => M_beasting_L133 bK 1000000 v 0 m11))) (fun r => FB b m r) := by
  rw [number_1 h, Option.bind_some, wr_ok (by omega) (by omega)]
  refine wp_mono (bF4 (b := b) (by rw [ru1 (by decide)]; exact h) b1 v0 v1) (fun r k => (FB.refl.put (by decide) (by decide) ?_ ?_).trans k) <;> (unfold bay; simp; omega)
theorem bF2 {m : zM} {b v : Int} (h : 0 < m 0 8) (b1 : b = 0 ∨ b = 1) (v0 : 6 * b ≤ v) (v1 : v < 6 * b + 6) : wp ((M_must_ 24948 m).bind (fun r5 => (M_number 0 99 r5).bind (fun r8 => wr 5 12 v r8.1 r8.2 (fun m11 => M_beasting_L133 bK 1000000 v 0 m11)))) (fun r => FB b m r) := by
  rw [must__1 h, Option.bind_some]
  exact bF3 h b1 v0 v1
theorem bF1 {m : zM} {b v s : Int} (h : 0 < m 0 8) (b1 : b = 0 ∨ b = 1) (v0 : 6 * b ≤ v) (v1 : v < 6 * b + 6) : wp (M_beasting_b105 v 4 12 v s m) (fun r => FB b m r) := by
  unfold M_beasting_b105
  rw [number_1 h, Option.bind_some, wr_ok (by omega) (by omega)]
  refine wp_mono (bF2 (b := b) (by rw [ru1 (by decide)]; exact h) b1 v0 v1) (fun r k => (FB.refl.put (by decide) (by decide) ?_ ?_).trans k) <;> (unfold bay; simp; omega)
theorem bF0 {m : zM} {b v : Int} (h : 0 < m 0 8) (b1 : b = 0 ∨ b = 1) (v0 : 6 * b ≤ v) (v1 : v < 6 * b + 6) : wp ((M_must_ 29807 m).bind (fun r20 => (if 0 < r20 0 8 then M_beasting_b105 v 4 12 v 0 r20 else rd 3 12 v r20 (fun y25 => M_beasting_b105 v 4 12 v y25 r20)))) (fun r => FB b m r) := by
  rw [must__1 h, Option.bind_some, if_pos h]
  exact bF1 h b1 v0 v1
theorem bFn {m : zM} {b v : Int} (h : 0 < m 0 8) (b1 : b = 0 ∨ b = 1) (v0 : 6 * b ≤ v) (v1 : v < 6 * b + 6) : wp ((M_number 0 23 m).bind (fun r16 => wr 3 12 v r16.1 r16.2 (fun m19 => (M_must_ 29807 m19).bind (fun r20 => (if 0 < r20 0 8 then M_beasting_b105 v 4 12 v 0 r20 else rd 3 12 v r20 (fun y25 => M_beasting_b105 v 4 12 v y25 r20)))))) (fun r => FB b m r) := by
  rw [number_1 h, Option.bind_some, wr_ok (by omega) (by omega)]
  refine wp_mono (bF0 (b := b) (by rw [ru1 (by decide)]; exact h) b1 v0 v1) (fun r k => (FB.refl.put (by decide) (by decide) ?_ ?_).trans k) <;> (unfold bay; simp; omega)
theorem bFm {m : zM} {b v : Int} (h : 0 < m 0 8) (b1 : b = 0 ∨ b = 1) (v0 : 6 * b ≤ v) (v1 : v < 6 * b + 6) : wp ((M_must_ 512735536499 m).bind (fun r13 => (M_number 0 23 r13).bind (fun r16 => wr 3 12 v r16.1 r16.2 (fun m19 => (M_must_ 29807 m19).bind (fun r20 => (if 0 < r20 0 8 then M_beasting_b105 v 4 12 v 0 r20 else rd 3 12 v r20 (fun y25 => M_beasting_b105 v 4 12 v y25 r20))))))) (fun r => FB b m r) := by
  rw [must__1 h, Option.bind_some]
  exact bFn h b1 v0 v1
theorem add_B {m : zM} {zd : Nat} {nb x y s p : Int} (hn : m zd 0 = nb) (n0 : 0 ≤ nb) (n6 : nb < 6) : Zo_addBeast zd x y s p m = some (upm (upm (upm (upm (upm (upm (upm (upm m (zd + 1) nb x) (zd + 2) nb y) (zd + 3) nb s) (zd + 4) nb p) (zd + 5) (nb * 3) 1) (zd + 5) (nb * 3 + 1) 1) (zd + 5) (nb * 3 + 2) 1) zd 0 (nb + 1)) := by
  unfold Zo_addBeast C_setTriple
  rw [hn, if_pos n6, wr_ok n0 (by omega), ru1 (by omega), hn, wr_ok n0 (by omega), ru1 (by omega), ru1 (by omega), hn, wr_ok n0 (by omega), ru1 (by omega), ru1 (by omega), ru1 (by omega), hn, wr_ok n0 (by omega), ru1 (by omega), ru1 (by omega), ru1 (by omega), ru1 (by omega), hn, wI_ok (x := nb * 3) (by omega) (by omega), wr_ok (by omega) (by omega), wI_ok (x := nb * 3 + 1) (by omega) (by omega), wr_ok (by omega) (by omega), wI_ok (x := nb * 3 + 2) (by omega) (by omega), wr_ok (by omega) (by omega), Option.bind_some, ru1 (by omega), ru1 (by omega), ru1 (by omega), ru1 (by omega), ru1 (by omega), ru1 (by omega), ru1 (by omega), hn, wI_ok (x := nb + 1) (by omega) (by omega), pf_ok]
theorem PZ.frameC {c : zX} {zd : Nat} {b i : Int} {mC mM : zM} (h : PZ c zd b i mC mM) : zd = 55 ∨ zd = 72 := h.1
theorem beast_J {c : zX} {zd : Nat} {b i : Int} {mC mM : zM} (hL : LX c) (h : PS c zd b i mC mM) (hk : xm c 4 i = 300) : wp (Pa_beastStatement mC) (fun a => wp (M_beasting mM) (fun r => ST c zd b mC mM a r)) := by
  obtain ⟨h1, h2, hz⟩ := h
  obtain ⟨z1, z2, z3, z4, z5, z6, z7⟩ := id hz
  have bi := h2.i0 hL
  have lt := h2.lt hL (by omega) (by omega)
  obtain ⟨za, zb, zc, zdd⟩ := ZM_4.mp z5
  have n0 := za.1
  have eC : mC zd 0 = zv mC zd 0 0 := by rw [← rZ0 (Z := zv mC zd) rfl]
  generalize en : zv mC zd 0 0 = nb at *
  unfold Pa_beastStatement M_beasting
  rw [mro_ok (z := zd) z2 (kdz z1), eC, z3, rd_ok (by omega) (by omega), n0.1]
  by_cases c6 : nb = 6
  · rw [if_neg (by omega), if_pos c6]
    unfold M_beasting_b20
    rw [fail_ok hL h1 h2, Option.bind_some, counts_1 h2.2.2.2.1, Option.bind_some, if_pos rfl]
    have ep : plc c 6 i = mM 0 4 := by
      rw [h2.at]
      exact if_neg (fun x => absurd x.1 (by decide))
    rw [ep]
    exact wp_some (wp_some (ST_bad (FE_fm (by decide)) fmC_K.C fmM_G.B FB.refl))
  · rw [if_pos (by omega), if_neg c6]
    unfold M_beasting_b20
    obtain ⟨r, er, r1, r2, r3⟩ := counts_0 hL h2 lt
    have e32 : r.2 0 32 = b := by rw [(G_32 r3.G).1]; exact z3
    have S0 : SH r.2 mM := fun a ha => r3.G.cell ha
    rw [h1.2, wI_ok (x := i + 1) (by omega) (by omega), pf_ok, er, Option.bind_some, if_neg (by omega), e32, rd_ok (by omega) (by omega), r3.G.cell (a := 2) (by decide), n0.1, lt_ok, wI_ok (x := 6 * b) (by omega) (by omega), wI_ok (x := 6 * b + nb) (by omega) (by omega)]
    have K0 : frK mC (upm mC 1 7 (i + 1)) := frK.refl.put (by simp)
    have zz := hz.G (j := i + 1) K0 r3.G (hL.up (by omega) (by omega) (by omega))
    refine wp_jb (new_J (b := b) hL h1.take r2 z1 (by rw [ru2 (by decide)]; exact z2) zz.2.2.2.2.1 e32 z4) (fun p q ⟨w, f, g⟩ => ?_)
    have S1 := S0.fr g
    have G1 := r3.G.trans g
    have K1 := K0.trans f
    rw [wr_ok (by omega) (by omega)]
    have B1 : frB b mM (upm q.2 17 (6 * b + nb) q.1) := G1.B.put (by decide) (by decide) (by unfold bay; simp; omega) (by unfold bay; simp; omega)
    rcases w with ⟨w1, w2, w3, w4⟩ | ⟨w1, w2⟩
    rotate_left
    · rw [if_pos w1]
      exact wp_some (wp_mono (bFm (b := b) (by rw [ru1 (by decide)]; exact w2.2.2) z4 (by omega) (by omega)) (fun y k => ST_bad w2 K1.C G1.B ((FB.refl.put (by decide) (by decide) (by unfold bay; simp; omega) (by unfold bay; simp; omega)).trans k)))
    · have S2 : SH (upm q.2 17 (6 * b + nb) q.1) (upm mM 17 (6 * b + nb) q.1) := S1.up
      have FEu : ∀ {pp s : zM} {a : Nat} {j x : Int}, a ≠ 0 → FE pp s → FE pp (upm s a j x) := fun ha hf => by
        unfold FE
        rw [ru1 (fun e => ha e.symm), ru1 (fun e => ha e.symm)]
        exact hf
      have Q1 : q.2 0 32 = b ∧ q.2 0 31 = mM 0 31 := ⟨by rw [(G_32 G1).1]; exact z3, (G_32 G1).2.1⟩
      rw [if_neg (by omega)]
      generalize ew : q.1 = wd at *
      generalize ex : p.2 1 8 = nx at *
      have u1 := w3.u (a := 17) (j := 6 * b + nb) (v := wd) (by decide)
      refine wp_jb (tok_w (k := 1) hL w2 u1 (by decide) (by decide) (by rfl)) (fun p2 q2 ⟨w, f2, g2⟩ => ?_)
      have S3 := S2.fr g2
      have K2 := K1.trans f2
      have B2 := B1.trans g2.B
      rcases w with ⟨x1, x2, x3⟩ | ⟨x1, x2⟩
      rotate_left
      · rw [if_pos x1]
        exact wp_some (wp_mono (bFn (b := b) x2.2.2 z4 (by omega) (by omega)) (fun y k => ST_bad x2 K2.C B2 k))
      · rw [if_neg (by omega)]
        refine wp_jb (num_J (lo := 0) (hi := 23) hL x2 x3) (fun p3 q3 ⟨w, f3, g3⟩ => ?_)
        have S4 := S3.fr g3
        have K3 := K2.trans f3
        have B3 := B2.trans g3.B
        rw [wr_ok (by omega) (by omega)]
        rcases w with ⟨y1, y2, y3, y4, y5, y6⟩ | ⟨y1, y2⟩
        rotate_left
        · rw [if_pos y1]
          exact wp_some (wp_mono (bF0 (b := b) (by rw [ru1 (by decide)]; exact y2.2.2) z4 (by omega) (by omega)) (fun y k => ST_bad y2 K3.C B3 ((FB.refl.put (by decide) (by decide) (by unfold bay; simp; omega) (by unfold bay; simp; omega)).trans k)))
        · rw [if_neg (by omega)]
          have S5 := S4.up (k := 3) (i := 6 * b + nb) (x := q3.1)
          have B4 : frB b mM (upm q3.2 3 (6 * b + nb) q3.1) := B3.put (by decide) (by decide) (by unfold bay; simp; omega) (by unfold bay; simp; omega)
          have u3 := y3.u (a := 3) (j := 6 * b + nb) (v := q3.1) (by decide)
          refine wp_jb (tok_w (k := 2) hL y2 u3 (by decide) (by decide) (by rfl)) (fun p4 q4 ⟨w, f4, g4⟩ => ?_)
          have S6 := S5.fr g4
          have K4 := K3.trans f4
          have B5 := B4.trans g4.B
          rcases w with ⟨x4, x5, x6⟩ | ⟨x4, x5⟩
          rotate_left
          · rw [if_pos x4, if_pos x5.2.2]
            exact wp_some (wp_mono (bF1 (b := b) x5.2.2 z4 (by omega) (by omega)) (fun y k => ST_bad x5 K4.C B5 k))
          · rw [if_neg (by omega), if_neg (show ¬ 0 < q4 0 8 by rw [x6.2.2.2.1]; decide), rd_ok (by omega) (by omega), S6 3 (by decide), upm_eq, sets_eq, y4]
            unfold M_beasting_b105
            refine wp_jb (num_J (lo := q3.1) (hi := 23) hL x5 x6) (fun p5 q5 ⟨w, f5, g5⟩ => ?_)
            have S7 := S6.fr g5
            have K5 := K4.trans f5
            have B6 := B5.trans g5.B
            rw [wr_ok (by omega) (by omega)]
            rcases w with ⟨v1, v2, v3, v4, v5, v6⟩ | ⟨v1, v2⟩
            rotate_left
            · rw [if_pos v1]
              exact wp_some (wp_mono (bF2 (b := b) (by rw [ru1 (by decide)]; exact v2.2.2) z4 (by omega) (by omega)) (fun y k => ST_bad v2 K5.C B6 ((FB.refl.put (by decide) (by decide) (by unfold bay; simp; omega) (by unfold bay; simp; omega)).trans k)))
            · rw [if_neg (by omega)]
              have S8 := S7.up (k := 4) (i := 6 * b + nb) (x := q5.1)
              have B7 : frB b mM (upm q5.2 4 (6 * b + nb) q5.1) := B6.put (by decide) (by decide) (by unfold bay; simp; omega) (by unfold bay; simp; omega)
              have u5 := v3.u (a := 4) (j := 6 * b + nb) (v := q5.1) (by decide)
              refine wp_jb (tok_w (k := 3) hL v2 u5 (by decide) (by decide) (by rfl)) (fun p6 q6 ⟨w, f6, g6⟩ => ?_)
              have S9 := S8.fr g6
              have K6 := K5.trans f6
              have B8 := B7.trans g6.B
              rcases w with ⟨x7, x8, x9⟩ | ⟨x7, x8⟩
              rotate_left
              · rw [if_pos x7]
                exact wp_some (wp_mono (bF3 (b := b) x8.2.2 z4 (by omega) (by omega)) (fun y k => ST_bad x8 K6.C B8 k))
              · rw [if_neg (by omega)]
                refine wp_jb (num_J (lo := 0) (hi := 99) hL x8 x9) (fun p7 q7 ⟨w, f7, g7⟩ => ?_)
                have S10 := S9.fr g7
                have K7 := K6.trans f7
                have B9 := B8.trans g7.B
                rw [wr_ok (by omega) (by omega)]
                rcases w with ⟨t1, t2, t3, t4, t5, t6⟩ | ⟨t1, t2⟩
                rotate_left
                · rw [if_pos t1]
                  exact wp_some (wp_mono (bF4 (b := b) (by rw [ru1 (by decide)]; exact t2.2.2) z4 (by omega) (by omega)) (fun y k => ST_bad t2 K7.C B9 ((FB.refl.put (by decide) (by decide) (by unfold bay; simp; omega) (by unfold bay; simp; omega)).trans k)))
                · have k8 : p7.2 zd 0 = nb := by rw [K7.cell (by omega)]; exact eC
                  have q8 : q7.2 0 8 = 0 := t3.2.2.2.1
                  have q32 : q7.2 0 32 = b := by rw [B9.2.2.1 32 (by omega)]; exact z3
                  have e31 : q7.2 0 31 = mM 0 31 := by
                    rw [(G_32 g7).2.1, (G_32 g6).2.1, ru1 (by decide), (G_32 g5).2.1, (G_32 g4).2.1, ru1 (by decide), (G_32 g3).2.1, (G_32 g2).2.1, ru1 (by decide), Q1.2]
                  rw [if_neg (by omega), mro_ok (z := zd) (by rw [K7.2.1]; exact z2) (kdz z1), add_B k8 (by omega) (by omega), Option.bind_some, ones_L (by omega) (by omega)]
                  have S11 := S10.up (k := 5) (i := 6 * b + nb) (x := q7.1)
                  have S12 := ((S11.up (k := 6) (i := 3 * (6 * b + nb)) (x := 1)).up (k := 6) (i := 3 * (6 * b + nb) + 1) (x := 1)).up (k := 6) (i := 3 * (6 * b + nb) + 2) (x := 1)
                  have e0 : upm (upm (upm (upm q7.2 5 (6 * b + nb) q7.1) 6 (3 * (6 * b + nb)) 1) 6 (3 * (6 * b + nb) + 1) 1) 6 (3 * (6 * b + nb) + 2) 1 0 = q7.2 0 := by rw [upm_ne (by decide), upm_ne (by decide), upm_ne (by decide), upm_ne (by decide)]
                  have B10 : frB b mM (upm (upm (upm (upm q7.2 5 (6 * b + nb) q7.1) 6 (3 * (6 * b + nb)) 1) 6 (3 * (6 * b + nb) + 1) 1) 6 (3 * (6 * b + nb) + 2) 1) := by
                    refine (((B9.put (by decide) (by decide) ?_ ?_).put (by decide) (by decide) ?_ ?_).put (by decide) (by decide) ?_ ?_).put (by decide) (by decide) ?_ ?_ <;> (unfold bay; simp; omega)
                  have M10 : PM c (i + 1 + 1 + 1 + 1 + 1 + 1 + 1 + 1) (upm (upm (upm (upm q7.2 5 (6 * b + nb) q7.1) 6 (3 * (6 * b + nb)) 1) 6 (3 * (6 * b + nb) + 1) 1) 6 (3 * (6 * b + nb) + 2) 1) := (((t3.u (by decide)).u (by decide)).u (by decide)).u (by decide)
                  generalize upm (upm (upm (upm q7.2 5 (6 * b + nb) q7.1) 6 (3 * (6 * b + nb)) 1) 6 (3 * (6 * b + nb) + 1) 1) 6 (3 * (6 * b + nb) + 2) 1 = sM at *
                  rw [e0, if_pos q8, q32, rd_ok (by omega) (by omega), S12 2 (by decide), wr_ok (by omega) (by omega)]
                  have E2 : upm (upm (upm (upm (upm (upm (upm mM 17 (6 * b + nb) wd) 3 (6 * b + nb) q3.1) 4 (6 * b + nb) q5.1) 5 (6 * b + nb) q7.1) 6 (3 * (6 * b + nb)) 1) 6 (3 * (6 * b + nb) + 1) 1) 6 (3 * (6 * b + nb) + 2) 1 2 b = nb := by
                    rw [upm_ne (by decide), upm_ne (by decide), upm_ne (by decide), upm_ne (by decide), upm_ne (by decide), upm_ne (by decide), upm_ne (by decide)]
                    exact n0.1
                  rw [E2, wI_ok (x := nb + 1) (by omega) (by omega)]
                  have S13 := S12.up (k := 2) (i := b) (x := nb + 1)
                  refine wp_some (wp_some ⟨Or.inl ⟨rfl, i + 1 + 1 + 1 + 1 + 1 + 1 + 1 + 1, ((((((((t2.z (by omega)).z (by omega)).z (by omega)).z (by omega)).z (by omega)).z (by omega)).z (by omega)).z (by omega)), M10.u (by decide), z1, ?_, ?_, z4, ?_, ?_, fun k hk => ?_⟩, ?_, B10.put (by decide) (by decide) ?_ ?_⟩)
                  · show upm (upm (upm (upm (upm (upm (upm (upm p7.2 (zd + 1) nb nx) (zd + 2) nb q3.1) (zd + 3) nb (p5.2 1 8)) (zd + 4) nb (p7.2 1 8)) (zd + 5) (nb * 3) 1) (zd + 5) (nb * 3 + 1) 1) (zd + 5) (nb * 3 + 2) 1) zd 0 (nb + 1) 1 3 = _
                    rw [ru1 (by omega), ru1 (by omega), ru1 (by omega), ru1 (by omega), ru1 (by omega), ru1 (by omega), ru1 (by omega), ru1 (by omega), K7.2.1]
                    exact z2
                  · rw [ru1 (by decide), e0]; exact q32
                  · show ZM (zv (upm (upm (upm (upm (upm (upm (upm (upm p7.2 (zd + 1) nb nx) (zd + 2) nb q3.1) (zd + 3) nb (p5.2 1 8)) (zd + 4) nb (p7.2 1 8)) (zd + 5) (nb * 3) 1) (zd + 5) (nb * 3 + 1) 1) (zd + 5) (nb * 3 + 2) 1) zd 0 (nb + 1)) zd) _ b
                    rw [zv_w0', zv_w (k := 5) (by decide), zv_w (k := 5) (by decide), zv_w (k := 5) (by decide), zv_w (k := 4) (by decide), zv_w (k := 3) (by decide), zv_w (k := 2) (by decide), zv_w (k := 1) (by decide), zv_K z1 K7]
                    refine S13.ZM ?_
                    rw [ZM_4]
                    refine ⟨za.push (nb := nb) (x := nx) (w := wd) (y := q3.1) (s := q5.1) (p := q7.1) en (by omega) ?_ ?_ ?_ ?_ ?_ ?_ ?_ y5 y6 ?_ ?_ (by omega) v6 ?_ ?_ t5 t6 ?_ ?_, zb.cong ?_ (fun k k0 k1 => ?_) (fun a ha => ?_), zc.cong (fun j hj => ?_) ?_, zdd.cong (fun k hk => ?_) (fun a ha => ?_)⟩
                    · rw [ru3 rfl rfl]
                    · rw [ru3 rfl rfl]
                    · rw [upm_ne (by decide), upm_ne (by decide), upm_ne (by decide), upm_ne (by decide), upm_ne (by decide), upm_ne (by decide), upm_ne (by decide), upm_eq]
                    · rw [upm_ne (by decide), upm_ne (by decide), upm_ne (by decide), upm_ne (by decide), upm_ne (by decide), upm_ne (by decide), upm_ne (by decide), upm_eq]
                    · exact w4
                    · rw [upm_ne (by decide), upm_ne (by decide), upm_ne (by decide), upm_ne (by decide), upm_ne (by decide), upm_ne (by decide), upm_eq, upm_ne (by decide)]
                    · rw [upm_ne (by decide), upm_ne (by decide), upm_ne (by decide), upm_ne (by decide), upm_ne (by decide), upm_ne (by decide), upm_eq, upm_ne (by decide)]
                    · rw [upm_ne (by decide), upm_ne (by decide), upm_ne (by decide), upm_ne (by decide), upm_ne (by decide), upm_eq, upm_ne (by decide), upm_ne (by decide), v4]
                    · rw [upm_ne (by decide), upm_ne (by decide), upm_ne (by decide), upm_ne (by decide), upm_ne (by decide), upm_eq, upm_ne (by decide), upm_ne (by decide)]
                    · rw [upm_ne (by decide), upm_ne (by decide), upm_ne (by decide), upm_ne (by decide), upm_eq, upm_ne (by decide), upm_ne (by decide), upm_ne (by decide), t4]
                    · rw [upm_ne (by decide), upm_ne (by decide), upm_ne (by decide), upm_ne (by decide), upm_eq, upm_ne (by decide), upm_ne (by decide), upm_ne (by decide)]
                    · intro j
                      have oth : ∀ M : zM, (upm (upm (upm M 5 (nb * 3) 1) 5 (nb * 3 + 1) 1) 5 (nb * 3 + 2) 1) 5 j = if j = nb * 3 + 2 then 1 else if j = nb * 3 + 1 then 1 else if j = nb * 3 then 1 else M 5 j := fun M => by
                        rw [upm_eq, upm_eq, upm_eq]
                        rfl
                      rw [upm_ne (by decide), oth, upm_ne (by decide), upm_ne (by decide), upm_ne (by decide), upm_ne (by decide)]
                      constructor
                      · intro hj
                        rw [if_neg (by omega), if_neg (by omega), if_neg (by omega)]
                      · intro j0 j1
                        rcases (by omega : j = nb * 3 ∨ j = nb * 3 + 1 ∨ j = nb * 3 + 2) with e | e | e
                        · rw [if_neg (by omega), if_neg (by omega), if_pos e]
                        · rw [if_neg (by omega), if_pos e]
                        · rw [if_pos e]
                    · intro j
                      have oth : ∀ M : zM, (upm (upm (upm M 6 (3 * (6 * b + nb)) 1) 6 (3 * (6 * b + nb) + 1) 1) 6 (3 * (6 * b + nb) + 2) 1) 6 j = if j = 3 * (6 * b + nb) + 2 then 1 else if j = 3 * (6 * b + nb) + 1 then 1 else if j = 3 * (6 * b + nb) then 1 else M 6 j := fun M => by
                        rw [upm_eq, upm_eq, upm_eq]
                        rfl
                      rw [upm_ne (by decide), oth, upm_ne (by decide), upm_ne (by decide), upm_ne (by decide), upm_ne (by decide)]
                      constructor
                      · intro hj
                        rw [if_neg (by omega), if_neg (by omega), if_neg (by omega)]
                      · intro j0 j1
                        rcases (by omega : j = 3 * (6 * b + nb) ∨ j = 3 * (6 * b + nb) + 1 ∨ j = 3 * (6 * b + nb) + 2) with e | e | e
                        · rw [if_neg (by omega), if_neg (by omega), if_pos e]
                        · rw [if_neg (by omega), if_pos e]
                        · rw [if_pos e]
                    · rw [ru2 (by decide), ru1 (by decide), ru1 (by decide), ru1 (by decide), ru1 (by decide), ru1 (by decide), ru1 (by decide), ru1 (by decide)]
                    · rw [upm_ne (by omega), upm_ne (by omega), upm_ne (by omega), upm_ne (by omega), upm_ne (by omega), upm_ne (by omega), upm_ne (by omega), upm_ne (by omega)]
                    · rw [upm_ne (by omega), upm_ne (by omega), upm_ne (by omega), upm_ne (by omega), upm_ne (by omega), upm_ne (by omega), upm_ne (by omega), upm_ne (by omega)]
                    · rw [ru2 (by omega), ru1 (by decide), ru1 (by decide), ru1 (by decide), ru1 (by decide), ru1 (by decide), ru1 (by decide), ru1 (by decide)]
                    · rw [upm_ne (by omega), upm_ne (by omega), upm_ne (by omega), upm_ne (by omega), upm_ne (by omega), upm_ne (by omega), upm_ne (by omega), upm_ne (by omega)]
                    · rw [upm_ne (by omega), upm_ne (by omega), upm_ne (by omega), upm_ne (by omega), upm_ne (by omega), upm_ne (by omega), upm_ne (by omega), upm_ne (by omega)]
                    · rw [upm_ne (by omega), upm_ne (by omega), upm_ne (by omega), upm_ne (by omega), upm_ne (by omega), upm_ne (by omega), upm_ne (by omega), upm_ne (by omega)]
                  · rw [ru1 (by decide), e0, e31]
                    have := hL.up (i := i) (j := i + 1 + 1 + 1 + 1 + 1 + 1 + 1 + 1) (by omega) (by omega) (by have := t3.1.2; omega)
                    omega
                  · rw [ru1 (by decide), ru1 (by decide), ru1 (by decide), S12 13 (by decide), S12 14 (by decide), e0, e31, upm_ne (by decide), upm_ne (by decide), upm_ne (by decide), upm_ne (by decide), upm_ne (by decide), upm_ne (by decide), upm_ne (by decide), upm_ne (by decide), upm_ne (by decide), upm_ne (by decide), upm_ne (by decide), upm_ne (by decide), upm_ne (by decide), upm_ne (by decide)]
                    exact z7 k hk
                  · have hm : ∀ k, k ≤ 5 → zd + k ∈ zcl zd := fun k hk => by unfold zcl; simp; omega
                    exact ((((((((K7.C.put (hm 1 (by decide)) (by omega)).put (hm 2 (by decide)) (by omega)).put (hm 3 (by decide)) (by omega)).put (hm 4 (by decide)) (by omega)).put (hm 5 (by decide)) (by omega)).put (hm 5 (by decide)) (by omega)).put (hm 5 (by decide)) (by omega)).put (hm 0 (by decide)) (by omega))
                  · unfold bay; simp
                  · unfold bay; simp; omega
