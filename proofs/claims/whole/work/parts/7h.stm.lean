/-! statements: settings, tastes, fears -/
theorem ST_bad {c : zX} {zd : Nat} {b : Int} {mC mM p q y : zM} (h : FE p q) (f : frC zd mC p) (g : frB b mM q) (k : FB b q y) : ST c zd b mC mM (0, p) y := ⟨Or.inr ⟨rfl, by unfold FE; rw [k.1, k.2.1]; exact h⟩, f, g.trans k.2.2⟩
theorem fmC_1 {m : zM} {k p : Int} : fmC m k p 1 1 = k := by
  unfold fmC
  rw [ru2 (by decide), ru3 rfl rfl]
theorem fmC_2 {m : zM} {k p : Int} : fmC m k p 1 2 = p := ru3 rfl rfl
def SH (s S : zM) : Prop := ∀ a, a ≠ 0 → s a = S a
theorem SH.refl {s : zM} : SH s s := fun _ _ => rfl
theorem SH.up {s S : zM} {k : Nat} {i x : Int} (h : SH s S) : SH (upm s k i x) (upm S k i x) := fun a ha => by
  by_cases e : a = k
  · subst e
    rw [upm_eq, upm_eq, h a ha]
  · rw [upm_ne e, upm_ne e, h a ha]
theorem SH.fr {s s' S : zM} (h : SH s S) (g : frG s s') : SH s' S := fun a ha => by rw [g.cell ha, h a ha]
theorem SH.fr5 {s s' S : zM} (h : SH s S) (g : frG5 s s') : ∀ a, a ≠ 0 → a ≠ 25 → s' a = S a := fun a ha h5 => by rw [g.1 a (by simp; omega), h a ha]
theorem SH.ZM {s S Z : zM} {b : Int} (h : SH s S) (z : ZM Z S b) : ZM Z s b := z.same (fun a q1 q2 => h a (by omega))
theorem G_32 {m m' : zM} (h : frG m m') : m' 0 32 = m 0 32 ∧ m' 0 31 = m 0 31 ∧ m' 0 13 = m 0 13 := ⟨h.2 32 (by decide) (by decide) (by decide) (by decide) (by decide) (by decide) (by decide) (by decide), h.2 31 (by decide) (by decide) (by decide) (by decide) (by decide) (by decide) (by decide) (by decide), h.2 13 (by decide) (by decide) (by decide) (by decide) (by decide) (by decide) (by decide) (by decide)⟩
theorem LX.up {c : zX} (hL : LX c) {i j : Int} (i0 : 0 ≤ i) (ij : i ≤ j) (j1 : j ≤ xl c) : xm c 5 i ≤ xm c 5 j := by
  have := hL.leI i0 ij j1
  omega
theorem has_0 : ∀ x : Nat, x < 8 → anI (srI 0 (x : Int)) 1 = 0 := by decide +kernel
theorem PC.z {c : zX} {i : Int} {a : Nat} {m : zM} {j v : Int} (h : PC c i m) (ha : 55 ≤ a) : PC c i (upm m a j v) := ⟨by rw [upm_ne (by omega), upm_ne (by omega), upm_ne (by omega), upm_ne (by omega), upm_ne (by omega)]; exact h.1, by rw [ru1 (by omega)]; exact h.2⟩
theorem PM.u {c : zX} {i : Int} {a : Nat} {m : zM} {j v : Int} (h : PM c i m) (ha : 2 ≤ a) : PM c i (upm m a j v) := h.keep (upm_ne (by omega)) (fun k _ => ru1 (by omega))
theorem set0_J {c : zX} {zd : Nat} {b i : Int} {mC mM : zM} (hL : LX c) (h : PS c zd b i mC mM) (hk : xm c 4 i = 310) : wp (Pa_setting 310 mC) (fun a => wp (M_telling 0 0 6 mM) (fun r => ST c zd b mC mM a r)) := by
  obtain ⟨h1, h2, hz⟩ := h
  obtain ⟨z1, z2, z3, z4, z5, z6, z7⟩ := id hz
  have bi := h2.i0 hL
  have lt := h2.lt hL (by omega) (by omega)
  unfold Pa_setting M_telling
  obtain ⟨r, er, r1, r2, r3⟩ := counts_0 hL h2 lt
  rw [h1.2, wI_ok (x := i + 1) (by omega) (by omega), pf_ok, if_pos rfl, er, Option.bind_some, if_neg (by omega)]
  refine wp_jb (num_J (lo := 0) (hi := 6) hL h1.take r2) (fun p q ⟨w, f, g⟩ => ?_)
  have G := r3.G.trans g
  have K : frK mC p.2 := (frK.refl.put (by simp)).trans f
  rcases w with ⟨w1, w2, w3, w4, w5, w6⟩ | ⟨w1, w2⟩
  · have e32 : q.2 0 32 = b := by rw [(G_32 G).1]; exact z3
    have e8 : q.2 0 8 = 0 := w3.2.2.2.1
    rw [if_neg (by omega), mro_ok (z := zd) (by rw [K.2.1]; exact z2) (kdz z1), pf_ok, if_pos e8, e32, wI_ok (x := 5 * b) (by omega) (by omega), wI_ok (by omega) (by omega), wr_ok (by omega) (by omega), w4]
    have zz := hz.G (j := i + 2) K G (hL.up (by omega) (by omega) (by have := w3.1.2; omega))
    obtain ⟨y1, y2, y3, y4, y5, y6, y7⟩ := zz
    rw [zv_K z1 K] at y5
    obtain ⟨za, zb, zc, zdd⟩ := ZM_4.mp y5
    refine wp_some (wp_some ⟨Or.inl ⟨rfl, i + 1 + 1, w2.z (by omega), w3.u (by decide), y1, ?_, ?_, y4, ?_, ?_, fun u hu => ?_⟩, K.C.put (by unfold zcl; simp) (by omega), G.B.put (by decide) (by decide) (by unfold bay; simp; try omega) (by unfold bay; simp; try omega)⟩)
    · show upm p.2 zd 14 q.1 1 3 = _
      rw [ru1 (by omega)]; exact y2
    · rw [ru1 (by decide)]; exact y3
    · show ZM (zv (upm p.2 zd 14 q.1) zd) _ b
      rw [zv_w0', zv_K z1 K, ZM_4]
      refine ⟨za.cong (ru2 (by decide)) (fun k _ _ => upm_ne (by omega)) (fun a _ => upm_ne (by omega)), zb.cong (ru2 (by decide)) (fun k _ _ => upm_ne (by omega)) (fun a _ => upm_ne (by omega)), ⟨⟨by rw [ru3 (by rfl) (by omega), ru3 rfl rfl], by rw [ru3 rfl rfl]; exact w5, by rw [ru3 rfl rfl]; exact w6⟩, by rw [ru2 (by omega), ru2 (by decide)]; exact zc.2.1, by rw [ru2 (by omega), ru2 (by decide)]; exact zc.2.2.1, by rw [ru2 (by omega), ru2 (by decide)]; exact zc.2.2.2.1, by rw [ru2 (by omega), ru2 (by decide)]; exact zc.2.2.2.2⟩, zdd.cong (fun k _ => upm_ne (by omega)) (fun a _ => upm_ne (by omega))⟩
    · rw [ru1 (by decide), show i + 1 + 1 = i + 2 from by omega]; exact y6
    · rw [ru1 (by decide), ru1 (by decide), ru1 (by decide)]; exact y7 u hu
  · rw [if_pos w1, if_neg (by have := w2.2.2; omega)]
    exact wp_some (wp_some (ST_bad w2 K.C G.B FB.refl))
theorem set1_J {c : zX} {zd : Nat} {b i : Int} {mC mM : zM} (hL : LX c) (h : PS c zd b i mC mM) (hk : xm c 4 i = 311) : wp (Pa_setting 311 mC) (fun a => wp (M_telling 1 0 99 mM) (fun r => ST c zd b mC mM a r)) := by
  obtain ⟨h1, h2, hz⟩ := h
  obtain ⟨z1, z2, z3, z4, z5, z6, z7⟩ := id hz
  have bi := h2.i0 hL
  have lt := h2.lt hL (by omega) (by omega)
  unfold Pa_setting M_telling
  obtain ⟨r, er, r1, r2, r3⟩ := counts_0 hL h2 lt
  rw [h1.2, wI_ok (x := i + 1) (by omega) (by omega), pf_ok, if_neg (show ¬ (311 : Int) = 310 by decide), if_pos rfl, er, Option.bind_some, if_neg (by omega)]
  refine wp_jb (num_J (lo := 0) (hi := 99) hL h1.take r2) (fun p q ⟨w, f, g⟩ => ?_)
  have G := r3.G.trans g
  have K : frK mC p.2 := (frK.refl.put (by simp)).trans f
  rcases w with ⟨w1, w2, w3, w4, w5, w6⟩ | ⟨w1, w2⟩
  · have e32 : q.2 0 32 = b := by rw [(G_32 G).1]; exact z3
    have e8 : q.2 0 8 = 0 := w3.2.2.2.1
    rw [if_neg (by omega), mro_ok (z := zd) (by rw [K.2.1]; exact z2) (kdz z1), pf_ok, if_pos e8, e32, wI_ok (x := 5 * b) (by omega) (by omega), wI_ok (by omega) (by omega), wr_ok (by omega) (by omega), w4]
    have zz := hz.G (j := i + 2) K G (hL.up (by omega) (by omega) (by have := w3.1.2; omega))
    obtain ⟨y1, y2, y3, y4, y5, y6, y7⟩ := zz
    rw [zv_K z1 K] at y5
    obtain ⟨za, zb, zc, zdd⟩ := ZM_4.mp y5
    refine wp_some (wp_some ⟨Or.inl ⟨rfl, i + 1 + 1, w2.z (by omega), w3.u (by decide), y1, ?_, ?_, y4, ?_, ?_, fun u hu => ?_⟩, K.C.put (by unfold zcl; simp) (by omega), G.B.put (by decide) (by decide) (by unfold bay; simp; try omega) (by unfold bay; simp; try omega)⟩)
    · show upm p.2 zd 15 q.1 1 3 = _
      rw [ru1 (by omega)]; exact y2
    · rw [ru1 (by decide)]; exact y3
    · show ZM (zv (upm p.2 zd 15 q.1) zd) _ b
      rw [zv_w0', zv_K z1 K, ZM_4]
      refine ⟨za.cong (ru2 (by decide)) (fun k _ _ => upm_ne (by omega)) (fun a _ => upm_ne (by omega)), zb.cong (ru2 (by decide)) (fun k _ _ => upm_ne (by omega)) (fun a _ => upm_ne (by omega)), ⟨by rw [ru2 (by omega), ru2 (by decide)]; exact zc.1, ⟨by rw [ru3 (by rfl) (by omega), ru3 rfl rfl], by rw [ru3 rfl rfl]; exact w5, by rw [ru3 rfl rfl]; exact w6⟩, by rw [ru2 (by omega), ru2 (by decide)]; exact zc.2.2.1, by rw [ru2 (by omega), ru2 (by decide)]; exact zc.2.2.2.1, by rw [ru2 (by omega), ru2 (by decide)]; exact zc.2.2.2.2⟩, zdd.cong (fun k _ => upm_ne (by omega)) (fun a _ => upm_ne (by omega))⟩
    · rw [ru1 (by decide), show i + 1 + 1 = i + 2 from by omega]; exact y6
    · rw [ru1 (by decide), ru1 (by decide), ru1 (by decide)]; exact y7 u hu
  · rw [if_pos w1, if_neg (by have := w2.2.2; omega)]
    exact wp_some (wp_some (ST_bad w2 K.C G.B FB.refl))
theorem set2_J {c : zX} {zd : Nat} {b i : Int} {mC mM : zM} (hL : LX c) (h : PS c zd b i mC mM) (hk : xm c 4 i = 312) : wp (Pa_setting 312 mC) (fun a => wp (M_telling 2 2 9 mM) (fun r => ST c zd b mC mM a r)) := by
  obtain ⟨h1, h2, hz⟩ := h
  obtain ⟨z1, z2, z3, z4, z5, z6, z7⟩ := id hz
  have bi := h2.i0 hL
  have lt := h2.lt hL (by omega) (by omega)
  unfold Pa_setting M_telling
  obtain ⟨r, er, r1, r2, r3⟩ := counts_0 hL h2 lt
  rw [h1.2, wI_ok (x := i + 1) (by omega) (by omega), pf_ok, if_neg (show ¬ (312 : Int) = 310 by decide), if_neg (show ¬ (312 : Int) = 311 by decide), if_pos rfl, er, Option.bind_some, if_neg (by omega)]
  refine wp_jb (num_J (lo := 2) (hi := 9) hL h1.take r2) (fun p q ⟨w, f, g⟩ => ?_)
  have G := r3.G.trans g
  have K : frK mC p.2 := (frK.refl.put (by simp)).trans f
  rcases w with ⟨w1, w2, w3, w4, w5, w6⟩ | ⟨w1, w2⟩
  · have e32 : q.2 0 32 = b := by rw [(G_32 G).1]; exact z3
    have e8 : q.2 0 8 = 0 := w3.2.2.2.1
    rw [if_neg (by omega), mro_ok (z := zd) (by rw [K.2.1]; exact z2) (kdz z1), pf_ok, if_pos e8, e32, wI_ok (x := 5 * b) (by omega) (by omega), wI_ok (by omega) (by omega), wr_ok (by omega) (by omega), w4]
    have zz := hz.G (j := i + 2) K G (hL.up (by omega) (by omega) (by have := w3.1.2; omega))
    obtain ⟨y1, y2, y3, y4, y5, y6, y7⟩ := zz
    rw [zv_K z1 K] at y5
    obtain ⟨za, zb, zc, zdd⟩ := ZM_4.mp y5
    refine wp_some (wp_some ⟨Or.inl ⟨rfl, i + 1 + 1, w2.z (by omega), w3.u (by decide), y1, ?_, ?_, y4, ?_, ?_, fun u hu => ?_⟩, K.C.put (by unfold zcl; simp) (by omega), G.B.put (by decide) (by decide) (by unfold bay; simp; try omega) (by unfold bay; simp; try omega)⟩)
    · show upm p.2 zd 16 q.1 1 3 = _
      rw [ru1 (by omega)]; exact y2
    · rw [ru1 (by decide)]; exact y3
    · show ZM (zv (upm p.2 zd 16 q.1) zd) _ b
      rw [zv_w0', zv_K z1 K, ZM_4]
      refine ⟨za.cong (ru2 (by decide)) (fun k _ _ => upm_ne (by omega)) (fun a _ => upm_ne (by omega)), zb.cong (ru2 (by decide)) (fun k _ _ => upm_ne (by omega)) (fun a _ => upm_ne (by omega)), ⟨by rw [ru2 (by omega), ru2 (by decide)]; exact zc.1, by rw [ru2 (by omega), ru2 (by decide)]; exact zc.2.1, ⟨by rw [ru3 (by rfl) (by omega), ru3 rfl rfl], by rw [ru3 rfl rfl]; exact w5, by rw [ru3 rfl rfl]; exact w6⟩, by rw [ru2 (by omega), ru2 (by decide)]; exact zc.2.2.2.1, by rw [ru2 (by omega), ru2 (by decide)]; exact zc.2.2.2.2⟩, zdd.cong (fun k _ => upm_ne (by omega)) (fun a _ => upm_ne (by omega))⟩
    · rw [ru1 (by decide), show i + 1 + 1 = i + 2 from by omega]; exact y6
    · rw [ru1 (by decide), ru1 (by decide), ru1 (by decide)]; exact y7 u hu
  · rw [if_pos w1, if_neg (by have := w2.2.2; omega)]
    exact wp_some (wp_some (ST_bad w2 K.C G.B FB.refl))
theorem set3_J {c : zX} {zd : Nat} {b i : Int} {mC mM : zM} (hL : LX c) (h : PS c zd b i mC mM) (hk : xm c 4 i = 313) : wp (Pa_setting 313 mC) (fun a => wp (M_telling 3 0 99 mM) (fun r => ST c zd b mC mM a r)) := by
  obtain ⟨h1, h2, hz⟩ := h
  obtain ⟨z1, z2, z3, z4, z5, z6, z7⟩ := id hz
  have bi := h2.i0 hL
  have lt := h2.lt hL (by omega) (by omega)
  unfold Pa_setting M_telling
  obtain ⟨r, er, r1, r2, r3⟩ := counts_0 hL h2 lt
  rw [h1.2, wI_ok (x := i + 1) (by omega) (by omega), pf_ok, if_neg (show ¬ (313 : Int) = 310 by decide), if_neg (show ¬ (313 : Int) = 311 by decide), if_neg (show ¬ (313 : Int) = 312 by decide), if_pos rfl, er, Option.bind_some, if_neg (by omega)]
  refine wp_jb (num_J (lo := 0) (hi := 99) hL h1.take r2) (fun p q ⟨w, f, g⟩ => ?_)
  have G := r3.G.trans g
  have K : frK mC p.2 := (frK.refl.put (by simp)).trans f
  rcases w with ⟨w1, w2, w3, w4, w5, w6⟩ | ⟨w1, w2⟩
  · have e32 : q.2 0 32 = b := by rw [(G_32 G).1]; exact z3
    have e8 : q.2 0 8 = 0 := w3.2.2.2.1
    rw [if_neg (by omega), mro_ok (z := zd) (by rw [K.2.1]; exact z2) (kdz z1), pf_ok, if_pos e8, e32, wI_ok (x := 5 * b) (by omega) (by omega), wI_ok (by omega) (by omega), wr_ok (by omega) (by omega), w4]
    have zz := hz.G (j := i + 2) K G (hL.up (by omega) (by omega) (by have := w3.1.2; omega))
    obtain ⟨y1, y2, y3, y4, y5, y6, y7⟩ := zz
    rw [zv_K z1 K] at y5
    obtain ⟨za, zb, zc, zdd⟩ := ZM_4.mp y5
    refine wp_some (wp_some ⟨Or.inl ⟨rfl, i + 1 + 1, w2.z (by omega), w3.u (by decide), y1, ?_, ?_, y4, ?_, ?_, fun u hu => ?_⟩, K.C.put (by unfold zcl; simp) (by omega), G.B.put (by decide) (by decide) (by unfold bay; simp; try omega) (by unfold bay; simp; try omega)⟩)
    · show upm p.2 zd 17 q.1 1 3 = _
      rw [ru1 (by omega)]; exact y2
    · rw [ru1 (by decide)]; exact y3
    · show ZM (zv (upm p.2 zd 17 q.1) zd) _ b
      rw [zv_w0', zv_K z1 K, ZM_4]
      refine ⟨za.cong (ru2 (by decide)) (fun k _ _ => upm_ne (by omega)) (fun a _ => upm_ne (by omega)), zb.cong (ru2 (by decide)) (fun k _ _ => upm_ne (by omega)) (fun a _ => upm_ne (by omega)), ⟨by rw [ru2 (by omega), ru2 (by decide)]; exact zc.1, by rw [ru2 (by omega), ru2 (by decide)]; exact zc.2.1, by rw [ru2 (by omega), ru2 (by decide)]; exact zc.2.2.1, ⟨by rw [ru3 (by rfl) (by omega), ru3 rfl rfl], by rw [ru3 rfl rfl]; exact w5, by rw [ru3 rfl rfl]; exact w6⟩, by rw [ru2 (by omega), ru2 (by decide)]; exact zc.2.2.2.2⟩, zdd.cong (fun k _ => upm_ne (by omega)) (fun a _ => upm_ne (by omega))⟩
    · rw [ru1 (by decide), show i + 1 + 1 = i + 2 from by omega]; exact y6
    · rw [ru1 (by decide), ru1 (by decide), ru1 (by decide)]; exact y7 u hu
  · rw [if_pos w1, if_neg (by have := w2.2.2; omega)]
    exact wp_some (wp_some (ST_bad w2 K.C G.B FB.refl))
theorem set4_J {c : zX} {zd : Nat} {b i : Int} {mC mM : zM} (hL : LX c) (h : PS c zd b i mC mM) (hk : xm c 4 i = 314) : wp (Pa_setting 314 mC) (fun a => wp (M_telling 4 0 100 mM) (fun r => ST c zd b mC mM a r)) := by
  obtain ⟨h1, h2, hz⟩ := h
  obtain ⟨z1, z2, z3, z4, z5, z6, z7⟩ := id hz
  have bi := h2.i0 hL
  have lt := h2.lt hL (by omega) (by omega)
  unfold Pa_setting M_telling
  obtain ⟨r, er, r1, r2, r3⟩ := counts_0 hL h2 lt
  rw [h1.2, wI_ok (x := i + 1) (by omega) (by omega), pf_ok, if_neg (show ¬ (314 : Int) = 310 by decide), if_neg (show ¬ (314 : Int) = 311 by decide), if_neg (show ¬ (314 : Int) = 312 by decide), if_neg (show ¬ (314 : Int) = 313 by decide), er, Option.bind_some, if_neg (by omega)]
  refine wp_jb (num_J (lo := 0) (hi := 100) hL h1.take r2) (fun p q ⟨w, f, g⟩ => ?_)
  have G := r3.G.trans g
  have K : frK mC p.2 := (frK.refl.put (by simp)).trans f
  rcases w with ⟨w1, w2, w3, w4, w5, w6⟩ | ⟨w1, w2⟩
  · have e32 : q.2 0 32 = b := by rw [(G_32 G).1]; exact z3
    have e8 : q.2 0 8 = 0 := w3.2.2.2.1
    rw [if_neg (by omega), mro_ok (z := zd) (by rw [K.2.1]; exact z2) (kdz z1), pf_ok, if_pos e8, e32, wI_ok (x := 5 * b) (by omega) (by omega), wI_ok (by omega) (by omega), wr_ok (by omega) (by omega), w4]
    have zz := hz.G (j := i + 2) K G (hL.up (by omega) (by omega) (by have := w3.1.2; omega))
    obtain ⟨y1, y2, y3, y4, y5, y6, y7⟩ := zz
    rw [zv_K z1 K] at y5
    obtain ⟨za, zb, zc, zdd⟩ := ZM_4.mp y5
    refine wp_some (wp_some ⟨Or.inl ⟨rfl, i + 1 + 1, w2.z (by omega), w3.u (by decide), y1, ?_, ?_, y4, ?_, ?_, fun u hu => ?_⟩, K.C.put (by unfold zcl; simp) (by omega), G.B.put (by decide) (by decide) (by unfold bay; simp; try omega) (by unfold bay; simp; try omega)⟩)
    · show upm p.2 zd 18 q.1 1 3 = _
      rw [ru1 (by omega)]; exact y2
    · rw [ru1 (by decide)]; exact y3
    · show ZM (zv (upm p.2 zd 18 q.1) zd) _ b
      rw [zv_w0', zv_K z1 K, ZM_4]
      refine ⟨za.cong (ru2 (by decide)) (fun k _ _ => upm_ne (by omega)) (fun a _ => upm_ne (by omega)), zb.cong (ru2 (by decide)) (fun k _ _ => upm_ne (by omega)) (fun a _ => upm_ne (by omega)), ⟨by rw [ru2 (by omega), ru2 (by decide)]; exact zc.1, by rw [ru2 (by omega), ru2 (by decide)]; exact zc.2.1, by rw [ru2 (by omega), ru2 (by decide)]; exact zc.2.2.1, by rw [ru2 (by omega), ru2 (by decide)]; exact zc.2.2.2.1, ⟨by rw [ru3 (by rfl) (by omega), ru3 rfl rfl], by rw [ru3 rfl rfl]; exact w5, by rw [ru3 rfl rfl]; exact w6⟩⟩, zdd.cong (fun k _ => upm_ne (by omega)) (fun a _ => upm_ne (by omega))⟩
    · rw [ru1 (by decide), show i + 1 + 1 = i + 2 from by omega]; exact y6
    · rw [ru1 (by decide), ru1 (by decide), ru1 (by decide)]; exact y7 u hu
  · rw [if_pos w1, if_neg (by have := w2.2.2; omega)]
    exact wp_some (wp_some (ST_bad w2 K.C G.B FB.refl))
theorem tast_L {m : zM} {b x : Int} (h8 : m 0 8 = 0) (h32 : m 0 32 = b) (b1 : b = 0 ∨ b = 1) (x0 : 0 ≤ x) (x1 : x < 6) : M_tasting_L22 1000000 x 0 m = some (upm (upm (upm m 6 (18 * b + x * 3) (m 25 0)) 6 (18 * b + x * 3 + 1) (m 25 1)) 6 (18 * b + x * 3 + 2) (m 25 2)) := by
  have st : ∀ (n : Nat) (k : Int) (s : zM), 0 ≤ k → k < 3 → s 0 = m 0 → s 25 = m 25 → M_tasting_L22 (n + 1) x k s = M_tasting_L22 n x (k + 1) (upm s 6 (18 * b + x * 3 + k) (m 25 k)) := by
    intro n k s k0 k1 e0 e5
    show M_tasting_B22 _ _ _ _ = _
    unfold M_tasting_B22
    rw [if_pos k1, e0, if_pos h8, rd_ok k0 (by omega), e5, h32, wI_ok (x := 6 * b) (by omega) (by omega), wI_ok (x := 6 * b + x) (by omega) (by omega), wI_ok (x := 3 * (6 * b + x)) (by omega) (by omega), wI_ok (x := 3 * (6 * b + x) + k) (by omega) (by omega), wr_ok (by omega) (by omega), wI_ok (x := k + 1) (by omega) (by omega), show 3 * (6 * b + x) + k = 18 * b + x * 3 + k from by omega]
  rw [st 999999 0 m (by decide) (by decide) rfl rfl, st 999998 (0 + 1) _ (by decide) (by decide) (upm_ne (by decide)) (upm_ne (by decide)), st 999997 (0 + 1 + 1) _ (by decide) (by decide) (by rw [upm_ne (by decide), upm_ne (by decide)]) (by rw [upm_ne (by decide), upm_ne (by decide)])]
  show M_tasting_B22 _ _ _ _ = _
  unfold M_tasting_B22
  rw [if_neg (by decide), Int.add_zero]
  rfl
theorem tast_F {m : zM} {x : Int} (h8 : 0 < m 0 8) : M_tasting_L22 1000000 x 0 m = some m := by
  show M_tasting_B22 _ _ _ _ = _
  unfold M_tasting_B22
  rw [if_pos (by decide), if_neg (by omega)]
theorem taste_J {c : zX} {zd : Nat} {b i : Int} {mC mM : zM} (hL : LX c) (h : PS c zd b i mC mM) (hk : xm c 4 i = 304) : wp (Pa_tasteStatement mC) (fun a => wp (M_tasting mM) (fun r => ST c zd b mC mM a r)) := by
  obtain ⟨h1, h2, hz⟩ := h
  obtain ⟨z1, z2, z3, z4, z5, z6, z7⟩ := id hz
  have bi := h2.i0 hL
  have lt := h2.lt hL (by omega) (by omega)
  unfold Pa_tasteStatement M_tasting
  obtain ⟨r, er, r1, r2, r3⟩ := counts_0 hL h2 lt
  rw [h1.2, wI_ok (x := i + 1) (by omega) (by omega), pf_ok, er, Option.bind_some, if_neg (by omega)]
  have K0 : frK mC (upm mC 1 7 (i + 1)) := frK.refl.put (by simp)
  have zz := hz.G (j := i + 1) K0 r3.G (hL.up (by omega) (by omega) (by omega))
  refine wp_jb (knownBeast_J (but := 0) hL h1.take r2 z1 (by rw [ru2 (by decide)]; exact z2) zz.2.2.2.2.1 zz.2.2.1 z4) (fun p q ⟨w, f, g⟩ => ?_)
  have G := r3.G.trans g
  have K : frK mC p.2 := K0.trans f
  rcases w with ⟨w1, w2, w3, w4⟩ | ⟨w1, w2, w3⟩
  · have hz0 : anI (srI 0 (p.2 1 8)) 1 = 0 := by
      have n6 := (ZM_4.mp zz.2.2.2.2.1).1.1.2.2
      have := has_0 (p.2 1 8).toNat (by omega)
      rw [show (((p.2 1 8).toNat : Nat) : Int) = p.2 1 8 from by omega] at this
      exact this
    rcases w4 with ⟨v1, v2, v3⟩ | ⟨v1, _⟩
    · have n6 := (ZM_4.mp zz.2.2.2.2.1).1.1.2.2
      rw [zv_K z1 K0] at w3 n6
      rw [if_neg (by omega), mro_ok (z := zd) (by rw [K.2.1]; exact z2) (kdz z1)]
      generalize ex : p.2 1 8 = x at *
      rw [wI_ok (x := x * 3) (by omega) (by omega), v2]
      have tj := triple_L (c := c) (a := zd + 5) (nn := 18) (x := x * 3) hL (by omega) (by omega) (by omega) (by decide) 3 1000000 1000000 0 (i + 1 + 1) p.2 q.2 (by decide) (by decide) (by decide) (by decide) w2 v1
      unfold Pa_triple M_threes
      refine wp_jb tj (fun p' q' ⟨y, y2, y3, y4⟩ => wp_some ?_)
      have fC : frC zd mC p'.2 := K.C.trans ⟨y2.1.mono (by unfold zcl; simp), y2.2.1⟩
      have gB : frB b mM q' := G.B.trans ⟨fun a ha => y4.1 a (by simp; omega), y4.1 1 (by simp), fun j hj => y4.2 j (by omega) (by omega) (by omega) (by omega) (by omega) (by omega) (by omega) (by omega), fun a a1 a2 j _ => by rw [y4.1 a (by simp; omega)]⟩
      rcases y with ⟨x1, x2, x3, x4, x5⟩ | ⟨x1, x2⟩
      · have q8 : q' 0 8 = 0 := x3.2.2.2.1
        have q32 : q' 0 32 = b := by rw [y4.2 32 (by decide) (by decide) (by decide) (by decide) (by decide) (by decide) (by decide) (by decide), (G_32 G).1]; exact z3
        have q31 : q' 0 31 = mM 0 31 := by rw [y4.2 31 (by decide) (by decide) (by decide) (by decide) (by decide) (by decide) (by decide) (by decide), (G_32 G).2.1]
        have qa : ∀ a, a ≠ 0 → a ≠ 25 → q' a = mM a := fun a a0 a5 => by rw [y4.1 a (by simp; omega), G.cell a0]
        rw [tast_L q8 q32 z4 w3.1 (by omega)]
        have v5 := fun k k0 k1 => x4 k k0 k1
        refine wp_some ⟨Or.inl ⟨x1, i + 1 + 1 + 3, x2, ((x3.u (by decide)).u (by decide)).u (by decide), z1, ?_, ?_, z4, ?_, ?_, fun u hu => ?_⟩, fC, ((gB.put (by decide) (by decide) ?_ ?_).put (by decide) (by decide) ?_ ?_).put (by decide) (by decide) ?_ ?_⟩
        · rw [y2.2.1, K.2.1]; exact z2
        · rw [ru1 (by decide), ru1 (by decide), ru1 (by decide)]; exact q32
        · obtain ⟨za, zb, zc, zdd⟩ := ZM_4.mp z5
          have Zk : ∀ k, k ≠ 5 → zv p'.2 zd k = zv mC zd k := fun k k5 => by
            unfold zv
            by_cases ck : k ≤ 15 ∧ k ≠ 13
            · rw [if_pos ck, if_pos ck, y2.1 _ (by simp; omega), K.cell (by omega)]
            · rw [if_neg ck, if_neg ck]
          have Z5 : zv p'.2 zd 5 = p'.2 (zd + 5) := zv_at (by decide)
          have Z5m : zv mC zd 5 = p.2 (zd + 5) := by rw [zv_at (by decide), K.cell (by omega)]
          rw [ZM_4]
          refine ⟨za.taste (x := x) (v := q' 25) w3.1 w3.2 (by rw [Zk 0 (by decide)]) (fun k _ _ => Zk k (by omega)) (fun a ha => ?_) (fun k k0 k1 => ?_) (fun j hj => ?_), zb.cong (by rw [Zk 0 (by decide)]) (fun k _ _ => Zk k (by omega)) (fun a ha => ?_), zc.cong (fun j _ => by rw [Zk 0 (by decide)]) ?_, zdd.cong (fun k _ => Zk k (by omega)) (fun a ha => ?_)⟩
          · rw [upm_ne (by omega), upm_ne (by omega), upm_ne (by omega)]; exact qa a (by omega) (by omega)
          · have t := x4 k k0 k1
            rw [Z5]
            refine ⟨t.1, ?_, t.2⟩
            rcases (by omega : k = 0 ∨ k = 1 ∨ k = 2) with e | e | e
            · subst e
              rw [ru2 (by omega), ru2 (by omega), ru3 rfl (by omega)]
            · subst e
              rw [ru2 (by omega), ru3 rfl rfl]
            · subst e
              rw [ru3 rfl rfl]
          · rw [Z5, Z5m, y3 j (by omega), ru2 (by omega), ru2 (by omega), ru2 (by omega), qa 6 (by decide) (by decide)]
            exact ⟨rfl, rfl⟩
          · rw [upm_ne (by omega), upm_ne (by omega), upm_ne (by omega)]; exact qa a (by omega) (by omega)
          · rw [upm_ne (by omega), upm_ne (by omega), upm_ne (by omega)]; exact qa 12 (by omega) (by omega)
          · rw [upm_ne (by omega), upm_ne (by omega), upm_ne (by omega)]; exact qa a (by omega) (by omega)
        · rw [ru1 (by decide), ru1 (by decide), ru1 (by decide), q31]
          have := hL.leI (i := i) (j := i + 1 + 1 + 3) (by omega) (by omega) (by have := x3.1.2; omega)
          omega
        · rw [ru1 (by decide), ru1 (by decide), ru1 (by decide), ru1 (by decide), ru1 (by decide), ru1 (by decide), ru1 (by decide), ru1 (by decide), ru1 (by decide), q31, qa 13 (by decide) (by decide), qa 14 (by decide) (by decide)]
          exact z7 u hu
        all_goals (unfold bay; simp; omega)
      · rw [tast_F x2.2.2, show p' = (0, p'.2) from by rw [← x1]]
        exact wp_some (ST_bad x2 fC gB FB.refl)
    · omega
  · rw [if_pos w1]
    refine wp_some ?_
    have h8 : 0 < q.2 0 8 := w2.2.2
    refine wp_bm (threes_F (b := b) 3 1000000 0 q.2 (by decide) (by decide) (by decide) h8) (fun s ⟨s1, s2⟩ => ?_)
    rw [tast_F (by rw [s1.1]; exact h8)]
    exact wp_some (ST_bad w2 K.C G.B s1)
theorem fear_J {c : zX} {zd : Nat} {b i : Int} {mC mM : zM} (hL : LX c) (h : PS c zd b i mC mM) (hk : xm c 4 i = 307) : wp (Pa_fearStatement mC) (fun a => wp (M_fearing mM) (fun r => ST c zd b mC mM a r)) := by
  obtain ⟨h1, h2, hz⟩ := h
  obtain ⟨z1, z2, z3, z4, z5, z6, z7⟩ := id hz
  have bi := h2.i0 hL
  have lt := h2.lt hL (by omega) (by omega)
  unfold Pa_fearStatement M_fearing
  obtain ⟨r, er, r1, r2, r3⟩ := counts_0 hL h2 lt
  rw [h1.2, wI_ok (x := i + 1) (by omega) (by omega), pf_ok, er, Option.bind_some, if_neg (by omega)]
  have K0 : frK mC (upm mC 1 7 (i + 1)) := frK.refl.put (by simp)
  have zz := hz.G (j := i + 1) K0 r3.G (hL.up (by omega) (by omega) (by omega))
  refine wp_jb (knownGuest_J (but := 0) hL h1.take r2 z1 (by rw [ru2 (by decide)]; exact z2) zz.2.2.2.2.1 zz.2.2.1 z4) (fun p q ⟨w, f, g⟩ => ?_)
  have G := r3.G.trans g
  have K : frK mC p.2 := K0.trans f
  have e32 : q.2 0 32 = b := by rw [(G_32 G).1]; exact z3
  have za := (ZM_4.mp z5).1
  have zb := (ZM_4.mp z5).2.1
  have n6 := za.1.2.2
  have n8 := zb.1.2.2
  rcases w with ⟨w1, w2, w3, w4⟩ | ⟨w1, w2, w3⟩
  · rw [zv_K z1 K0] at w3
    generalize ex : p.2 1 8 = x at *
    have hz0 : anI (srI 0 x) 1 = 0 := by
      have := has_0 x.toNat (by omega)
      rw [show ((x.toNat : Nat) : Int) = x from by omega] at this
      exact this
    rcases w4 with ⟨v1, v2, v3⟩ | ⟨v1, _⟩
    · rw [if_neg (by omega), e32, v2, wI_ok (x := 8 * b) (by omega) (by omega), wI_ok (x := 8 * b + x) (by omega) (by omega), rd_ok (by omega) (by omega)]
      have zz2 := hz.G (j := i + 1 + 1) K G (hL.up (by omega) (by omega) (by have := v1.1.2; omega))
      have e9 : q.2 11 (8 * b + x) = zv mC zd 9 x ∧ 0 ≤ zv mC zd 9 x ∧ zv mC zd 9 x ≤ 63 := by
        rw [G.cell (by decide)]
        exact zb.2.2.2.1 x ⟨w3.1, w3.2⟩
      refine wp_jb (knownBeast_J (but := q.2 11 (8 * b + x)) hL w2 v1 z1 (by rw [K.2.1]; exact z2) zz2.2.2.2.2.1 zz2.2.2.1 z4) (fun p' q' ⟨y, f', g'⟩ => ?_)
      have G' := G.trans g'
      have K' : frK mC p'.2 := K.trans f'
      have e32' : q'.2 0 32 = b := by rw [(G_32 G').1]; exact z3
      rcases y with ⟨y1, y2, y3, y4⟩ | ⟨y1, y2, y3⟩
      · rw [zv_K z1 K] at y3
        generalize ey : p'.2 1 8 = u at *
        have fe : Zo_isFeared zd u x p'.2 = some (if anI (srI (zv mC zd 9 x) u) 1 = 0 then 0 else 1) := by
          unfold Zo_isFeared
          rw [rd_ok (by omega) (by omega), show p'.2 (zd + 9) x = zv mC zd 9 x from by rw [K'.cell (by omega), zv_at (by decide)]]
          by_cases ca : anI (srI (zv mC zd 9 x) u) 1 = 0
          · rw [if_pos ca, if_pos ca]
          · rw [if_neg ca, if_neg ca]
        rw [if_neg (by omega), mro_ok (z := zd) (by rw [K'.2.1]; exact z2) (kdz z1), fe, Option.bind_some]
        rw [e9.1] at y4
        rcases y4 with ⟨u1, u2, u3⟩ | ⟨u1, u2, u3, u4⟩
        · rw [if_pos u3, if_pos rfl, mro_ok (z := zd) (by rw [K'.2.1]; exact z2) (kdz z1), rd_ok (by omega) (by omega), wr_ok (by omega) (by omega), if_pos u1.2.2.2.1, e32', wI_ok (x := 8 * b) (by omega) (by omega), wI_ok (x := 8 * b + x) (by omega) (by omega), rd_ok (by omega) (by omega), wr_ok (by omega) (by omega), u2]
          have o := or64 (x := zv mC zd 9 x) (b := u) e9.2.1 e9.2.2 y3.1 (by omega)
          have r9 : p'.2 (zd + 9) x = zv mC zd 9 x := by rw [K'.cell (by omega), zv_at (by decide)]
          have m11 : q'.2 11 (8 * b + x) = zv mC zd 9 x := by rw [g'.cell (by decide)]; exact e9.1
          rw [r9, m11]
          have zz3 := hz.G (j := i + 1 + 1 + 1) K' G' (hL.up (by omega) (by omega) (by have := u1.1.2; omega))
          obtain ⟨t1, t2, t3, t4, t5, t6, t7⟩ := zz3
          rw [zv_K z1 K'] at t5
          obtain ⟨ta, tb, tc, td⟩ := ZM_4.mp t5
          refine wp_some (wp_some ⟨Or.inl ⟨rfl, i + 1 + 1 + 1, y2.z (by omega), u1.u (by decide), z1, ?_, ?_, z4, ?_, ?_, fun k hk => ?_⟩, K'.C.put (by unfold zcl; simp) (by omega), G'.B.put (by decide) (by decide) (by unfold bay; simp; omega) (by unfold bay; simp; omega)⟩)
          · show upm p'.2 (zd + 9) x (orI (zv mC zd 9 x) (slI 1 u)) 1 3 = _
            rw [ru1 (by omega)]; exact t2
          · rw [ru1 (by decide)]; exact t3
          · show ZM (zv (upm p'.2 (zd + 9) x (orI (zv mC zd 9 x) (slI 1 u))) zd) _ b
            rw [zv_w (by decide), zv_K z1 K', ZM_4]
            exact ⟨ta.cong (ru1 (by decide)) (fun k _ _ => upm_ne (by omega)) (fun a _ => upm_ne (by omega)), tb.fear w3.1 w3.2 (ru1 (by decide)) (fun k _ => upm_ne (by omega)) (fun a _ => upm_ne (by omega)) upm_eq upm_eq o.1 o.2, tc.cong (fun j _ => ru1 (by decide)) (upm_ne (by decide)), td.cong (fun k _ => upm_ne (by omega)) (fun a _ => upm_ne (by omega))⟩
          · rw [ru1 (by decide)]; exact t6
          · rw [ru1 (by decide), ru1 (by decide), ru1 (by decide)]; exact t7 k hk
        · have e7 : p'.2 1 7 = i + 1 + 1 + 1 := y2.2
          have PCb : PC c (i + 1 + 1) (upm p'.2 1 7 (i + 1 + 1)) := y2.keep (frK.refl.put (by simp)) (ru3 rfl rfl)
          rw [if_neg (show ¬ anI (srI (zv mC zd 9 x) u) 1 = 0 by omega), if_neg (show ¬ (1 : Int) = 0 by decide), pf_ok, e7, wI_ok (by omega) (by omega), show i + 1 + 1 + 1 - 1 = i + 1 + 1 from by omega, fail_ok hL PCb v1, Option.bind_some, if_neg (by omega)]
          refine wp_some (wp_some (ST_bad (q := q'.2) ?_ (K'.trans ((frK.refl.put (by simp)).trans fmC_K)).C G'.B FB.refl))
          have ep : plc c 3 (i + 1 + 1) = xm c 5 (i + 1 + 1) := if_neg (fun x => absurd x.1 (by decide))
          refine ⟨?_, ?_, by omega⟩
          · rw [u2]
            exact fmC_1 (m := upm p'.2 1 7 (i + 1 + 1)) (k := 3) (p := plc c 3 (i + 1 + 1))
          · rw [u3, ← ep]
            exact fmC_2 (m := upm p'.2 1 7 (i + 1 + 1)) (k := 3) (p := plc c 3 (i + 1 + 1))
      · rw [if_pos y1, if_neg (by have := y2.2.2; omega)]
        exact wp_some (wp_some (ST_bad y2 K'.C G'.B FB.refl))
    · omega
  · have h8 : 0 < q.2 0 8 := w2.2.2
    rw [if_pos w1, e32, w3, wI_ok (x := 8 * b) (by omega) (by omega), wI_ok (x := 8 * b + 0) (by omega) (by omega), rd_ok (by omega) (by omega), asked_1 h8, Option.bind_some]
    dsimp only
    rw [if_neg (by omega)]
    exact wp_some (wp_some (ST_bad w2 K.C G.B FB.refl))
