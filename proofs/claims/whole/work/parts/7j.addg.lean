/-! statements: a guest -/
def SH5 (s S : zM) : Prop := ∀ a, a ≠ 0 → a ≠ 25 → s a = S a
theorem SH.five {s S : zM} (h : SH s S) : SH5 s S := fun a h0 _ => h a h0
theorem SH5.up {s S : zM} {k : Nat} {i x : Int} (h : SH5 s S) : SH5 (upm s k i x) (upm S k i x) := fun a ha h5 => by
  by_cases e : a = k
  · subst e
    rw [upm_eq, upm_eq, h a ha h5]
  · rw [upm_ne e, upm_ne e, h a ha h5]
theorem SH5.fr {s s' S : zM} (h : SH5 s S) (g : frG s s') : SH5 s' S := fun a ha h5 => by rw [g.cell ha, h a ha h5]
theorem SH5.fr5 {s s' S : zM} (h : SH5 s S) (g : frG5 s s') : SH5 s' S := fun a ha h5 => by rw [g.1 a (by simp; omega), h a ha h5]
theorem SH5.ZM {s S Z : zM} {b : Int} (h : SH5 s S) (z : ZM Z S b) : ZM Z s b := z.same (fun a q1 q2 => h a (by omega) (by omega))
theorem frG5.B {b : Int} {m m' : zM} (h : frG5 m m') : frB b m m' := ⟨fun a ha => h.1 a (by simp; omega), h.1 1 (by simp), fun j hj => h.2 j (by omega) (by omega) (by omega) (by omega) (by omega) (by omega) (by omega) (by omega), fun a a1 a2 j _ => by rw [h.1 a (by simp; omega)]⟩
theorem gest_L {K : Int → zM → Option zM} {m : zM} {v : Int} (v0 : 0 ≤ v) (v1 : v < 16) : M_guesting_L61 K 1000000 v 0 m = K v (upm (upm (upm m 8 (3 * v) (m 25 0)) 8 (3 * v + 1) (m 25 1)) 8 (3 * v + 2) (m 25 2)) := by
  have st : ∀ (n : Nat) (k : Int) (s : zM), 0 ≤ k → k < 3 → s 25 = m 25 → M_guesting_L61 K (n + 1) v k s = M_guesting_L61 K n v (k + 1) (upm s 8 (3 * v + k) (m 25 k)) := by
    intro n k s k0 k1 e5
    show M_guesting_B61 _ _ _ _ _ = _
    unfold M_guesting_B61
    rw [if_pos k1, rd_ok k0 (by omega), e5, wI_ok (x := 3 * v) (by omega) (by omega), wI_ok (x := 3 * v + k) (by omega) (by omega), wr_ok (by omega) (by omega), wI_ok (by omega) (by omega)]
  rw [st 999999 0 m (by decide) (by decide) rfl, st 999998 (0 + 1) _ (by decide) (by decide) (upm_ne (by decide)), st 999997 (0 + 1 + 1) _ (by decide) (by decide) (by rw [upm_ne (by decide), upm_ne (by decide)])]
  show M_guesting_B61 _ _ _ _ _ = _
  unfold M_guesting_B61
  rw [if_neg (by decide), Int.add_zero]
  rfl
theorem gF1 {m : zM} {b v s : Int} (h : 0 < m 0 8) (b1 : b = 0 ∨ b = 1) (v0 : 8 * b ≤ v) (v1 : v < 8 * b + 8) : wp (M_guesting_b138 v 10 16 v s m) (fun r => FB b m r) := by
  unfold M_guesting_b138
  rw [number_1 h, Option.bind_some]
  dsimp only
  rw [wr_ok (by omega) (by omega), wr_ok (by omega) (by omega), if_neg (by rw [ru1 (by decide), ru1 (by decide)]; omega)]
  refine wp_some ((FB.refl.put (by decide) (by decide) ?_ ?_).put (by decide) (by decide) ?_ ?_) <;> (unfold bay; simp; omega)
theorem gF0 {m : zM} {b v : Int} (h : 0 < m 0 8) (b1 : b = 0 ∨ b = 1) (v0 : 8 * b ≤ v) (v1 : v < 8 * b + 8) : wp ((M_must_ 29807 m).bind (fun r25 => (if 0 < r25 0 8 then M_guesting_b138 v 10 16 v 0 r25 else rd 9 16 v r25 (fun y30 => M_guesting_b138 v 10 16 v y30 r25)))) (fun r => FB b m r) := by
  rw [must__1 h, Option.bind_some, if_pos h]
  exact gF1 h b1 v0 v1
theorem gFn {m : zM} {b v : Int} (h : 0 < m 0 8) (b1 : b = 0 ∨ b = 1) (v0 : 8 * b ≤ v) (v1 : v < 8 * b + 8) : wp ((M_number 0 23 m).bind (fun r21 => wr 9 16 v r21.1 r21.2 (fun m24 => (M_must_ 29807 m24).bind (fun r25 => (if 0 < r25 0 8 then M_guesting_b138 v 10 16 v 0 r25 else rd 9 16 v r25 (fun y30 => M_guesting_b138 v 10 16 v y30 r25)))))) (fun r => FB b m r) := by
  rw [number_1 h, Option.bind_some, wr_ok (by omega) (by omega)]
  refine wp_mono (gF0 (b := b) (by rw [ru1 (by decide)]; exact h) b1 v0 v1) (fun r k => (FB.refl.put (by decide) (by decide) ?_ ?_).trans k) <;> (unfold bay; simp; omega)
def gK : Int → zM → Option zM := fun x1_16 m17 => (M_must_ 427071202675 m17).bind (fun r18 => (M_number 0 23 r18).bind (fun r21 => wr 9 16 x1_16 r21.1 r21.2 (fun m24 => (M_must_ 29807 m24).bind (fun r25 => (if 0 < r25 0 8 then M_guesting_b138 x1_16 10 16 x1_16 0 r25 else rd 9 16 x1_16 r25 (fun y30 => M_guesting_b138 x1_16 10 16 x1_16 y30 r25))))))
theorem gFm {m : zM} {b v : Int} (h : 0 < m 0 8) (b1 : b = 0 ∨ b = 1) (v0 : 8 * b ≤ v) (v1 : v < 8 * b + 8) : wp (gK v m) (fun r => FB b m r) := by
  unfold gK
  rw [must__1 h, Option.bind_some]
  exact gFn h b1 v0 v1
theorem gFl {m : zM} {b v : Int} (h : 0 < m 0 8) (b1 : b = 0 ∨ b = 1) (v0 : 8 * b ≤ v) (v1 : v < 8 * b + 8) : wp (M_guesting_L61 gK 1000000 v 0 m) (fun r => FB b m r) := by
  rw [gest_L (by omega) (by omega)]
  refine wp_mono (gFm (b := b) (by rw [ru1 (by decide), ru1 (by decide), ru1 (by decide)]; exact h) b1 v0 v1) (fun r k => (((FB.refl.put (by decide) (by decide) ?_ ?_).put (by decide) (by decide) ?_ ?_).put (by decide) (by decide) ?_ ?_).trans k) <;> (unfold bay; simp; omega)
theorem gFt {m : zM} {b v : Int} (h : 0 < m 0 8) (b1 : b = 0 ∨ b = 1) (v0 : 8 * b ≤ v) (v1 : v < 8 * b + 8) : wp ((M_threes m).bind (fun r13 => M_guesting_L61 gK 1000000 v 0 r13)) (fun r => FB b m r) := by
  refine wp_bm (threes_F (b := b) 3 1000000 0 m (by decide) (by decide) (by decide) h) (fun s ⟨s1, _⟩ => ?_)
  exact wp_mono (gFl (b := b) (by rw [s1.1]; exact h) b1 v0 v1) (fun r k => s1.trans k)
theorem add_G {m : zM} {zd : Nat} {ng x y s : Int} (hn : m zd 1 = ng) (n0 : 0 ≤ ng) (n8 : ng < 8) : Zo_addGuest zd x y s m = some (upm (upm (upm (upm (upm m (zd + 6) ng x) (zd + 7) ng y) (zd + 8) ng s) (zd + 9) ng 0) zd 1 (ng + 1)) := by
  unfold Zo_addGuest
  rw [hn, if_pos n8, wr_ok n0 (by omega), ru1 (by omega), hn, wr_ok n0 (by omega), ru1 (by omega), ru1 (by omega), hn, wr_ok n0 (by omega), ru1 (by omega), ru1 (by omega), ru1 (by omega), hn, wr_ok n0 (by omega), ru1 (by omega), ru1 (by omega), ru1 (by omega), ru1 (by omega), hn, wI_ok (x := ng + 1) (by omega) (by omega), pf_ok]
theorem guest_J {c : zX} {zd : Nat} {b i : Int} {mC mM : zM} (hL : LX c) (h : PS c zd b i mC mM) (hk : xm c 4 i = 305) : wp (Pa_guestStatement mC) (fun a => wp (M_guesting mM) (fun r => ST c zd b mC mM a r)) := by
  obtain ⟨h1, h2, hz⟩ := h
  obtain ⟨z1, z2, z3, z4, z5, z6, z7⟩ := id hz
  have bi := h2.i0 hL
  have lt := h2.lt hL (by omega) (by omega)
  obtain ⟨za, zb, zc, zdd⟩ := ZM_4.mp z5
  have n0 := zb.1
  have eC : mC zd 1 = zv mC zd 0 1 := by rw [← rZ0 (Z := zv mC zd) rfl]
  generalize en : zv mC zd 0 1 = ng at *
  unfold Pa_guestStatement M_guesting
  rw [mro_ok (z := zd) z2 (kdz z1), eC, z3, rd_ok (by omega) (by omega), n0.1]
  by_cases c8 : ng = 8
  · rw [if_neg (by omega), if_pos c8]
    unfold M_guesting_b20
    rw [fail_ok hL h1 h2, Option.bind_some, counts_1 h2.2.2.2.1, Option.bind_some, if_pos rfl]
    have ep : plc c 6 i = mM 0 4 := by
      rw [h2.at]
      exact if_neg (fun x => absurd x.1 (by decide))
    rw [ep]
    exact wp_some (wp_some (ST_bad (FE_fm (by decide)) fmC_K.C fmM_G.B FB.refl))
  · rw [if_pos (by omega), if_neg c8]
    unfold M_guesting_b20
    obtain ⟨r, er, r1, r2, r3⟩ := counts_0 hL h2 lt
    have e32 : r.2 0 32 = b := by rw [(G_32 r3.G).1]; exact z3
    have S0 : SH r.2 mM := fun a ha => r3.G.cell ha
    rw [h1.2, wI_ok (x := i + 1) (by omega) (by omega), pf_ok, er, Option.bind_some, if_neg (by omega), e32, rd_ok (by omega) (by omega), r3.G.cell (a := 7) (by decide), n0.1, lt_ok, wI_ok (x := 8 * b) (by omega) (by omega), wI_ok (x := 8 * b + ng) (by omega) (by omega)]
    have K0 : frK mC (upm mC 1 7 (i + 1)) := frK.refl.put (by simp)
    have zz := hz.G (j := i + 1) K0 r3.G (hL.up (by omega) (by omega) (by omega))
    refine wp_jb (new_J (b := b) hL h1.take r2 z1 (by rw [ru2 (by decide)]; exact z2) zz.2.2.2.2.1 e32 z4) (fun p q ⟨w, f, g⟩ => ?_)
    have S1 := S0.fr g
    have G1 := r3.G.trans g
    have K1 := K0.trans f
    rw [wr_ok (by omega) (by omega)]
    have B1 : frB b mM (upm q.2 18 (8 * b + ng) q.1) := G1.B.put (by decide) (by decide) (by unfold bay; simp; omega) (by unfold bay; simp; omega)
    rcases w with ⟨w1, w2, w3, w4⟩ | ⟨w1, w2⟩
    rotate_left
    · rw [if_pos w1]
      exact wp_some (wp_mono (gFt (b := b) (by rw [ru1 (by decide)]; exact w2.2.2) z4 (by omega) (by omega)) (fun y k => ST_bad w2 K1.C G1.B ((FB.refl.put (by decide) (by decide) (by unfold bay; simp; omega) (by unfold bay; simp; omega)).trans k)))
    · have S2 : SH5 (upm q.2 18 (8 * b + ng) q.1) (upm mM 18 (8 * b + ng) q.1) := S1.five.up
      have Q1 : q.2 0 32 = b ∧ q.2 0 31 = mM 0 31 := ⟨by rw [(G_32 G1).1]; exact z3, (G_32 G1).2.1⟩
      have kz : p.2 zd 1 = ng := by rw [K1.cell (by omega)]; exact eC
      rw [if_neg (by omega), mro_ok (z := zd) (by rw [K1.2.1]; exact z2) (kdz z1), mro_ok (z := zd) (by rw [K1.2.1]; exact z2) (kdz z1), kz, wI_ok (x := ng * 3) (by omega) (by omega)]
      generalize ew : q.1 = wd at *
      generalize ex : p.2 1 8 = nx at *
      have u1 := w3.u (a := 18) (j := 8 * b + ng) (v := wd) (by decide)
      have tj := triple_L (c := c) (a := zd + 10) (nn := 24) (x := ng * 3) hL (by omega) (by omega) (by omega) (by decide) 3 1000000 1000000 0 (i + 1 + 1) p.2 (upm q.2 18 (8 * b + ng) wd) (by decide) (by decide) (by decide) (by decide) w2 u1
      unfold Pa_triple M_threes
      refine wp_jb tj (fun p2 q2 ⟨y, f2, yo, g2⟩ => ?_)
      have S3 := S2.fr5 g2
      have B2 := B1.trans g2.B
      have K2 : frC zd mC p2.2 := K1.C.trans ⟨f2.1.mono (by unfold zcl; simp), f2.2.1⟩
      have K2s : p2.2 1 3 = (zd : Int) + 1 := by rw [f2.2.1, K1.2.1]; exact z2
      have Kc : ∀ a, a ≠ 1 → a ≠ zd + 10 → p2.2 a = mC a := fun a a1 a2 => by rw [f2.1 a (by simp; omega), K1.cell a1]
      rcases y with ⟨x1, x2, x3, xv, _⟩ | ⟨x1, x2⟩
      rotate_left
      · rw [if_pos x1]
        exact wp_some (wp_mono (gFl (b := b) x2.2.2 z4 (by omega) (by omega)) (fun y k => ST_bad x2 K2 B2 k))
      · have Q2 : q2 0 32 = b ∧ q2 0 31 = mM 0 31 := by
          have a := g2.2 32 (by decide) (by decide) (by decide) (by decide) (by decide) (by decide) (by decide) (by decide)
          have a' := g2.2 31 (by decide) (by decide) (by decide) (by decide) (by decide) (by decide) (by decide) (by decide)
          rw [ru1 (by decide)] at a a'
          exact ⟨by rw [a]; exact Q1.1, by rw [a']; exact Q1.2⟩
        rw [if_neg (by omega), gest_L (by omega) (by omega)]
        have v0 := xv 0 (by decide) (by decide)
        have v1 := xv 1 (by decide) (by decide)
        have v2 := xv 2 (by decide) (by decide)
        generalize e0 : q2 25 0 = t0 at *
        generalize e1 : q2 25 1 = t1 at *
        generalize e2 : q2 25 2 = t2 at *
        have S4 := ((S3.up (k := 8) (i := 3 * (8 * b + ng)) (x := t0)).up (k := 8) (i := 3 * (8 * b + ng) + 1) (x := t1)).up (k := 8) (i := 3 * (8 * b + ng) + 2) (x := t2)
        have u3 : PM c (i + 1 + 1 + ((3 : Nat) : Int)) (upm (upm (upm q2 8 (3 * (8 * b + ng)) t0) 8 (3 * (8 * b + ng) + 1) t1) 8 (3 * (8 * b + ng) + 2) t2) := ((x3.u (by decide)).u (by decide)).u (by decide)
        have B3 : frB b mM (upm (upm (upm q2 8 (3 * (8 * b + ng)) t0) 8 (3 * (8 * b + ng) + 1) t1) 8 (3 * (8 * b + ng) + 2) t2) := by
          refine ((B2.put (by decide) (by decide) ?_ ?_).put (by decide) (by decide) ?_ ?_).put (by decide) (by decide) ?_ ?_ <;> (unfold bay; simp; omega)
        have Q3 : upm (upm (upm q2 8 (3 * (8 * b + ng)) t0) 8 (3 * (8 * b + ng) + 1) t1) 8 (3 * (8 * b + ng) + 2) t2 0 31 = mM 0 31 := by
          rw [ru1 (by decide), ru1 (by decide), ru1 (by decide)]; exact Q2.2
        generalize upm (upm (upm q2 8 (3 * (8 * b + ng)) t0) 8 (3 * (8 * b + ng) + 1) t1) 8 (3 * (8 * b + ng) + 2) t2 = s4 at *
        generalize hj : i + 1 + 1 + ((3 : Nat) : Int) = j at *
        refine wp_jb (tok_w (k := 6) hL x2 u3 (by decide) (by decide) (by rfl)) (fun p3 q3 ⟨w, f3, g3⟩ => ?_)
        have S5 := S4.fr g3
        have K3 := K2.trans f3.C
        have B4 := B3.trans g3.B
        rcases w with ⟨y1, y2, y3⟩ | ⟨y1, y2⟩
        rotate_left
        · rw [if_pos y1]
          exact wp_some (wp_mono (gFn (b := b) y2.2.2 z4 (by omega) (by omega)) (fun y k => ST_bad y2 K3 B4 k))
        · rw [if_neg (by omega)]
          refine wp_jb (num_J (lo := 0) (hi := 23) hL y2 y3) (fun p4 q4 ⟨w, f4, g4⟩ => ?_)
          have S6 := S5.fr g4
          have K4 := K3.trans f4.C
          have B5 := B4.trans g4.B
          rw [wr_ok (by omega) (by omega)]
          rcases w with ⟨x4, x5, x6, x7, x8, x9⟩ | ⟨x4, x5⟩
          rotate_left
          · rw [if_pos x4]
            exact wp_some (wp_mono (gF0 (b := b) (by rw [ru1 (by decide)]; exact x5.2.2) z4 (by omega) (by omega)) (fun y k => ST_bad x5 K4 B5 ((FB.refl.put (by decide) (by decide) (by unfold bay; simp; omega) (by unfold bay; simp; omega)).trans k)))
          · rw [if_neg (by omega), x7]
            have S7 := S6.up (k := 9) (i := 8 * b + ng) (x := q4.1)
            have B6 : frB b mM (upm q4.2 9 (8 * b + ng) q4.1) := B5.put (by decide) (by decide) (by unfold bay; simp; omega) (by unfold bay; simp; omega)
            have u5 := x6.u (a := 9) (j := 8 * b + ng) (v := q4.1) (by decide)
            refine wp_jb (tok_w (k := 2) hL x5 u5 (by decide) (by decide) (by rfl)) (fun p5 q5 ⟨w, f5, g5⟩ => ?_)
            have S8 := S7.fr g5
            have K5 := K4.trans f5.C
            have B7 := B6.trans g5.B
            rcases w with ⟨t3, t4, t5⟩ | ⟨t3, t4⟩
            rotate_left
            · rw [if_pos t3, if_pos t4.2.2]
              exact wp_some (wp_mono (gF1 (b := b) t4.2.2 z4 (by omega) (by omega)) (fun y k => ST_bad t4 K5 B7 k))
            · rw [if_neg (by omega), if_neg (show ¬ 0 < q5 0 8 by rw [t5.2.2.2.1]; decide), rd_ok (by omega) (by omega), S8 9 (by decide) (by decide), upm_eq, sets_eq]
              unfold M_guesting_b138
              refine wp_jb (num_J (lo := q4.1) (hi := 23) hL t4 t5) (fun p6 q6 ⟨w, f6, g6⟩ => ?_)
              have S9 := S8.fr g6
              have K6 := K5.trans f6.C
              have B8 := B7.trans g6.B
              rw [wr_ok (by omega) (by omega), wr_ok (by omega) (by omega)]
              have B9 : frB b mM (upm (upm q6.2 10 (8 * b + ng) q6.1) 11 (8 * b + ng) 0) := by
                refine (B8.put (by decide) (by decide) ?_ ?_).put (by decide) (by decide) ?_ ?_ <;> (unfold bay; simp; omega)
              rcases w with ⟨o1, o2, o3, o4, o5, o6⟩ | ⟨o1, o2⟩
              rotate_left
              · rw [if_pos o1, if_neg (by rw [ru1 (by decide), ru1 (by decide)]; have := o2.2.2; omega)]
                exact wp_some (wp_some (ST_bad (q := q6.2) o2 K6 B8 ((FB.refl.put (by decide) (by decide) (by unfold bay; simp; omega) (by unfold bay; simp; omega)).put (by decide) (by decide) (by unfold bay; simp; omega) (by unfold bay; simp; omega))))
              · have KC : ∀ a, a ≠ 1 → a ≠ zd + 10 → p6.2 a = mC a := fun a a1 a2 => by rw [f6.cell a1, f5.cell a1, f4.cell a1, f3.cell a1, Kc a a1 a2]
                have K10 : p6.2 (zd + 10) = p2.2 (zd + 10) := by rw [f6.cell (by omega), f5.cell (by omega), f4.cell (by omega), f3.cell (by omega)]
                have k8 : p6.2 zd 1 = ng := by rw [KC zd (by omega) (by omega)]; exact eC
                have q8 : q6.2 0 8 = 0 := o3.2.2.2.1
                have q32 : q6.2 0 32 = b := by rw [B8.2.2.1 32 (by omega)]; exact z3
                have e31 : q6.2 0 31 = mM 0 31 := by
                  rw [(G_32 g6).2.1, (G_32 g5).2.1, ru1 (by decide), (G_32 g4).2.1, (G_32 g3).2.1, Q3]
                have M10 : PM c (j + 1 + 1 + 1 + 1) (upm (upm q6.2 10 (8 * b + ng) q6.1) 11 (8 * b + ng) 0) := (o3.u (by decide)).u (by decide)
                have S10 := (S9.up (k := 10) (i := 8 * b + ng) (x := q6.1)).up (k := 11) (i := 8 * b + ng) (x := 0)
                have e00 : upm (upm q6.2 10 (8 * b + ng) q6.1) 11 (8 * b + ng) 0 0 = q6.2 0 := by rw [upm_ne (by decide), upm_ne (by decide)]
                rw [if_neg (by omega), mro_ok (z := zd) (by rw [f6.2.1, f5.2.1, f4.2.1, f3.2.1]; exact K2s) (kdz z1), add_G k8 (by omega) (by omega), Option.bind_some]
                generalize upm (upm q6.2 10 (8 * b + ng) q6.1) 11 (8 * b + ng) 0 = sM at *
                rw [e00, if_pos q8, q32, rd_ok (by omega) (by omega), S10 7 (by decide) (by decide), wr_ok (by omega) (by omega)]
                have E2 : upm (upm (upm (upm (upm (upm (upm mM 18 (8 * b + ng) wd) 8 (3 * (8 * b + ng)) t0) 8 (3 * (8 * b + ng) + 1) t1) 8 (3 * (8 * b + ng) + 2) t2) 9 (8 * b + ng) q4.1) 10 (8 * b + ng) q6.1) 11 (8 * b + ng) 0 7 b = ng := by
                  rw [upm_ne (by decide), upm_ne (by decide), upm_ne (by decide), upm_ne (by decide), upm_ne (by decide), upm_ne (by decide), upm_ne (by decide)]
                  exact n0.1
                rw [E2, wI_ok (x := ng + 1) (by omega) (by omega), o4]
                have S11 := S10.up (k := 7) (i := b) (x := ng + 1)
                have Zp : ∀ k, k ≠ 10 → zv p6.2 zd k = zv mC zd k := fun k k5 => by
                  unfold zv
                  by_cases ck : k ≤ 15 ∧ k ≠ 13
                  · rw [if_pos ck, if_pos ck, KC _ (by omega) (by omega)]
                  · rw [if_neg ck, if_neg ck]
                have Z10 : zv p6.2 zd 10 = p2.2 (zd + 10) := by rw [zv_at (by decide), K10]
                have Z10m : zv mC zd 10 = p.2 (zd + 10) := by rw [zv_at (by decide), K1.cell (by omega)]
                refine wp_some (wp_some ⟨Or.inl ⟨rfl, j + 1 + 1 + 1 + 1, ((((o2.z (by omega)).z (by omega)).z (by omega)).z (by omega)).z (by omega), M10.u (by decide), z1, ?_, ?_, z4, ?_, ?_, fun k hk => ?_⟩, ?_, B9.put (by decide) (by decide) ?_ ?_⟩)
                · show upm (upm (upm (upm (upm p6.2 (zd + 6) ng nx) (zd + 7) ng q4.1) (zd + 8) ng q6.1) (zd + 9) ng 0) zd 1 (ng + 1) 1 3 = _
                  rw [ru1 (by omega), ru1 (by omega), ru1 (by omega), ru1 (by omega), ru1 (by omega), f6.2.1, f5.2.1, f4.2.1, f3.2.1]
                  exact K2s
                · rw [ru1 (by decide), e00]; exact q32
                · show ZM (zv (upm (upm (upm (upm (upm p6.2 (zd + 6) ng nx) (zd + 7) ng q4.1) (zd + 8) ng q6.1) (zd + 9) ng 0) zd 1 (ng + 1)) zd) _ b
                  rw [zv_w0', zv_w (k := 9) (by decide), zv_w (k := 8) (by decide), zv_w (k := 7) (by decide), zv_w (k := 6) (by decide)]
                  refine S11.ZM ?_
                  rw [ZM_4]
                  refine ⟨za.cong ?_ (fun k k0 k1 => ?_) (fun a ha => ?_), zb.push (ng := ng) (x := nx) (w := wd) (y := q4.1) (s := q6.1) (v := fun k => if k = 0 then t0 else if k = 1 then t1 else t2) en (by omega) ?_ ?_ ?_ ?_ ?_ ?_ ?_ x8 x9 ?_ ?_ (by omega) o6 ?_ ?_ (fun k k0 k1 => ?_) (fun k hk => ?_), zc.cong (fun k hk => ?_) ?_, zdd.cong (fun k hk => ?_) (fun a ha => ?_)⟩
                  · rw [ru2 (by decide), ru1 (by decide), ru1 (by decide), ru1 (by decide), ru1 (by decide), Zp 0 (by decide)]
                  · rw [upm_ne (by omega), upm_ne (by omega), upm_ne (by omega), upm_ne (by omega), upm_ne (by omega), Zp k (by omega)]
                  · rw [upm_ne (by omega), upm_ne (by omega), upm_ne (by omega), upm_ne (by omega), upm_ne (by omega), upm_ne (by omega), upm_ne (by omega), upm_ne (by omega)]
                  · rw [ru3 rfl rfl]
                  · rw [ru3 rfl rfl]
                  · rw [upm_ne (by decide), upm_ne (by decide), upm_ne (by decide), upm_ne (by decide), upm_eq, Zp 6 (by decide)]
                  · rw [upm_ne (by decide), upm_ne (by decide), upm_ne (by decide), upm_ne (by decide), upm_ne (by decide), upm_ne (by decide), upm_ne (by decide), upm_eq]
                  · exact w4
                  · rw [upm_ne (by decide), upm_ne (by decide), upm_ne (by decide), upm_eq, upm_ne (by decide), Zp 7 (by decide)]
                  · rw [upm_ne (by decide), upm_ne (by decide), upm_ne (by decide), upm_eq, upm_ne (by decide), upm_ne (by decide), upm_ne (by decide), upm_ne (by decide)]
                  · rw [upm_ne (by decide), upm_ne (by decide), upm_eq, upm_ne (by decide), upm_ne (by decide), Zp 8 (by decide)]
                  · rw [upm_ne (by decide), upm_ne (by decide), upm_eq, upm_ne (by decide), upm_ne (by decide), upm_ne (by decide), upm_ne (by decide), upm_ne (by decide)]
                  · rw [upm_ne (by decide), upm_eq, upm_ne (by decide), upm_ne (by decide), upm_ne (by decide), Zp 9 (by decide)]
                  · rw [upm_ne (by decide), upm_eq, upm_ne (by decide), upm_ne (by decide), upm_ne (by decide), upm_ne (by decide), upm_ne (by decide), upm_ne (by decide)]
                  · rw [upm_ne (by decide), upm_ne (by decide), upm_ne (by decide), upm_ne (by decide), upm_ne (by decide), Z10, upm_ne (by decide), upm_ne (by decide), upm_ne (by decide), upm_ne (by decide)]
                    have z := xv k k0 k1
                    rcases (by omega : k = 0 ∨ k = 1 ∨ k = 2) with e | e | e
                    · subst e
                      rw [e0] at z
                      rw [ru2 (by omega), ru2 (by omega), ru3 rfl (by omega)]
                      exact ⟨z.1, rfl, z.2⟩
                    · subst e
                      rw [e1] at z
                      rw [ru2 (by omega), ru3 rfl (by omega)]
                      exact ⟨z.1, rfl, z.2⟩
                    · subst e
                      rw [e2] at z
                      rw [ru3 rfl (by omega)]
                      exact ⟨z.1, rfl, z.2⟩
                  · rw [upm_ne (by decide), upm_ne (by decide), upm_ne (by decide), upm_ne (by decide), upm_ne (by decide), Z10, Z10m, upm_ne (by decide), upm_ne (by decide), upm_ne (by decide), upm_ne (by decide), yo k (by omega), ru2 (by omega), ru2 (by omega), ru2 (by omega), upm_ne (by decide)]
                    exact ⟨rfl, rfl⟩
                  · rw [ru2 (by omega), ru1 (by decide), ru1 (by decide), ru1 (by decide), ru1 (by decide), Zp 0 (by decide)]
                  · rw [upm_ne (by omega), upm_ne (by omega), upm_ne (by omega), upm_ne (by omega), upm_ne (by omega), upm_ne (by omega), upm_ne (by omega), upm_ne (by omega)]
                  · rw [upm_ne (by omega), upm_ne (by omega), upm_ne (by omega), upm_ne (by omega), upm_ne (by omega), Zp k (by omega)]
                  · rw [upm_ne (by omega), upm_ne (by omega), upm_ne (by omega), upm_ne (by omega), upm_ne (by omega), upm_ne (by omega), upm_ne (by omega), upm_ne (by omega)]
                · rw [ru1 (by decide), e00, e31]
                  have := hL.up (i := i) (j := j + 1 + 1 + 1 + 1) (by omega) (by omega) (by have := o3.1.2; omega)
                  omega
                · rw [ru1 (by decide), ru1 (by decide), ru1 (by decide), S10 13 (by decide) (by decide), S10 14 (by decide) (by decide), e00, e31, upm_ne (by decide), upm_ne (by decide), upm_ne (by decide), upm_ne (by decide), upm_ne (by decide), upm_ne (by decide), upm_ne (by decide), upm_ne (by decide), upm_ne (by decide), upm_ne (by decide), upm_ne (by decide), upm_ne (by decide), upm_ne (by decide), upm_ne (by decide)]
                  exact z7 k hk
                · have hm : ∀ k, k ≤ 9 → zd + k ∈ zcl zd := fun k hk => by unfold zcl; simp; omega
                  exact ((((K6.put (hm 6 (by decide)) (by omega)).put (hm 7 (by decide)) (by omega)).put (hm 8 (by decide)) (by omega)).put (hm 9 (by decide)) (by omega)).put (hm 0 (by decide)) (by omega)
                · unfold bay; simp
                · unfold bay; simp; omega
