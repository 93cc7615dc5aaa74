theorem torn_L {mC0 mM0 : zM} {z : Nat} {Z S0 : zM} {b N : Int} {tb : Int → Int} (h0 : RelZ (upm mC0 2 1 0) mM0 z Z S0 b) (hN : N % 2 = 0) (N0 : 2 ≤ N) (N1 : N ≤ 32) (hl : mC0 2 1 = N) (htC : ∀ i, 0 ≤ i → i < N → mC0 3 i = tb i) (htM : ∀ i, 0 ≤ i → i < N → mM0 1 i = tb i) {A : Int} (hA : A = min 100 (23999 - mom S0)) : ∀ (d n k : Nat) (i r : Int) (mC mM T : zM), i + (d : Int) = A → 0 ≤ i → d < n → d < k → 0 ≤ r → r * 2 < N → RelT z Z b mC0 mM0 mC mM T → mom T = mom S0 + i → wp ((C_hoursUntilCome_L32 n A r i mC).bind (fun r13 => pf 2 1 0 r13.2 (fun m16 => some (r13.1, m16)))) (fun a => wp (M_torn_L104 k N (r * 2) (i + 1) mM) (fun q => a.1 = q.1 ∧ Rel a.2 q.2)) := by
  obtain ⟨hz, h12, hs, hg0, hu, hZ0, hS⟩ := id h0
  have d0 := hg0.dy
  have r0 := hg0.hr
  have z0 : zv mC0 z = Z := by rw [← hZ0, zv_upm (by omega)]
  have c12 : mC0 0 12 = (z : Int) + 1 := by rw [ru1 (by decide)] at h12; exact h12
  -- the end of the class's call
  have fin : ∀ (mC mM : zM) (v : Int), eqO [26, 27, 29, z + 13, z + 16, 16, 17, 18, 19, 20, 21, 22, 23] mC0 mC → frA 1 mM0 mM → Rel (upm mC 2 1 0) mM := by
    intro mC mM v k f
    refine RelT.rel (T := S0) h0 (l := [26, 27, 29, z + 13, z + 16, 16, 17, 18, 19, 20, 21, 22, 23]) ?_ (by simp) f
    intro a ha
    by_cases e : a = 2
    · subst e
      rw [upm_eq, upm_eq, k 2 ha]
    · rw [upm_ne e, upm_ne e, k a ha]
  intro d
  induction d with
  | zero =>
    intro n k i r mC mM T hi i0 hn hk r0 r1 h hm
    obtain ⟨n, rfl⟩ : ∃ q, n = q + 1 := ⟨n - 1, by omega⟩
    obtain ⟨k, rfl⟩ : ∃ q, k = q + 1 := ⟨k - 1, by omega⟩
    obtain ⟨kk, f, hT, hg⟩ := id h
    have hgN : GG Z S0 mM b 0 := ⟨hg0.1.same (fun a a1 a2 => f.1 a (by omega)), hg0.2.1.frame hg0.nb.2 hg0.ng.2 f (by decide), by rw [f.1 0 (by omega)]; exact hg0.2.2.1, hg0.2.2.2⟩
    show wp ((C_hoursUntilCome_B32 _ _ _ _ _).bind _) (fun a => wp (M_torn_B104 _ _ _ _ _) _)
    unfold C_hoursUntilCome_B32 M_torn_B104
    rw [if_neg (by omega), ahead_ok hgN (by decide) (by decide), Option.bind_some, Option.bind_some, if_neg (show ¬ (1 ≤ i + 1 ∧ i + 1 ≤ 100 ∧ i + 1 ≤ 23999 - mom S0) by omega), if_pos p00]
    exact wp_some (wp_some ⟨rfl, fin mC mM 0 kk f⟩)
  | succ d ih =>
    intro n k i r mC mM T hi i0 hn hk r0 r1 h hm
    obtain ⟨n, rfl⟩ : ∃ q, n = q + 1 := ⟨n - 1, by omega⟩
    obtain ⟨k, rfl⟩ : ∃ q, k = q + 1 := ⟨k - 1, by omega⟩
    obtain ⟨kk, f, hT, hg⟩ := id h
    have n1 := hg.nb
    have e12 : mC 0 12 = (z : Int) + 1 := by rw [kk 0 (by simp)]; exact c12
    have hZ : zv mC z = Z := by rw [← z0]; exact zv_eq fun q q1 q2 => kk _ (by simp; omega)
    have hgN : GG Z S0 mM b 0 := ⟨hg0.1.same (fun a a1 a2 => f.1 a (by omega)), hg0.2.1.frame hg0.nb.2 hg0.ng.2 f (by decide), by rw [f.1 0 (by omega)]; exact hg0.2.2.1, hg0.2.2.2⟩
    show wp ((C_hoursUntilCome_B32 _ _ _ _ _).bind _) (fun a => wp (M_torn_B104 _ _ _ _ _) _)
    unfold C_hoursUntilCome_B32 M_torn_B104
    rw [if_pos (by omega), ahead_ok hgN (by decide) (by decide), Option.bind_some, if_pos (show (1 ≤ i + 1 ∧ i + 1 ≤ 100 ∧ i + 1 ≤ 23999 - mom S0) by omega), if_neg n10, mro_ok e12 (kdz hz), bind_as]
    refine wp_bm (wp_weigh hg hZ hT (by omega) (by omega) (by omega)) (fun m1 ⟨a1, a2⟩ => ?_)
    have z1 : zv m1 z = Z := by rw [← hZ]; exact zv_eq fun k q1 q2 => a1 _ (by simp; omega)
    have s1 : sv m1 16 = T := by rw [← hT]; exact sv_eq fun k q => a1 _ (by simp; omega)
    have f12 : m1 0 12 = (z : Int) + 1 := by rw [a1 0 (by simp)]; exact e12
    rw [mro_ok f12 (kdz hz), mro_ok f12 (kdz hz), show m1 z 0 = Z 0 0 from by rw [rZ0 z1], bind_as]
    refine wp_bm (wp_choose hg z1 s1 (by omega) (by omega) (by omega) (by rw [rZ0 z1]) n1.1 (by omega) a2) (fun m2 ⟨b1, b2, _⟩ => ?_)
    have z2 : zv m2 z = Z := by rw [← z1]; exact zv_eq fun k q1 q2 => b1 _ (by simp; omega)
    have s2 : sv m2 16 = T := by rw [← s1]; exact sv_eq fun k q => b1 _ (by simp; omega)
    have g12 : m2 0 12 = (z : Int) + 1 := by rw [b1 0 (by simp)]; exact f12
    have k2 : eqO [26, 27, 29, z + 13, z + 16, 16, 17, 18, 19, 20, 21, 22, 23] mC0 m2 := (kk.trans (a1.mono (by simp))).trans (b1.mono (by simp))
    have l2 : m2 2 1 = N := by rw [k2 2 (by simp), hl]
    have t2 : ∀ i, 0 ≤ i → i < N → m2 3 i = tb i := fun j j0 j1 => by rw [k2 3 (by simp)]; exact htC j j0 j1
    obtain ⟨rr, eA, r1', r2, r3, r4⟩ := wp_asking hg
    have tM : ∀ i, 0 ≤ i → i < N → rr.2 1 i = tb i := fun j j0 j1 => by rw [(f.trans r3).1 1 (by omega)]; exact htM j j0 j1
    have fm := fun k203 => fol_M (k203 := k203) (hh := i + 1) hg r2 (fun b hb => ⟨(r4 b hb).1, fun hne => by rw [(r4 b hb).2 hne]; exact met_0⟩) hN N1 tM 1000000 r 0 (by omega) (by omega) (by omega) r0 (by omega)
    have fb := fol_b (Z := Z) (T := T) (tb := tb) (n := N) 1000000 r 0 r0 (by omega)
    rw [mro_ok g12 (kdz hz)]
    unfold Ke_follow
    rw [fol_C hg z2 b2 l2 N1 t2 1000000 r 0 (by omega) (by omega) (by omega) r0 (by omega), Option.bind_some, l2, mro_ok g12 (kdz hz), eA, Option.bind_some, fm]
    generalize folV Z T tb N 1000000 r 0 = v at *
    unfold M_torn_b203
    rw [wI_ok (x := v * 2) (by omega) (by omega), wI_ok (x := i + 1) (by omega) (by omega), wI_ok (x := i + 1 + 1) (by omega) (by omega)]
    by_cases c : v * 2 < N
    · rw [if_pos c, if_neg (show ¬ v * 2 = N by omega), bind_as]
      refine wp_bm (wp_settle hg z2 s2 (by omega) (by omega) (by omega) (by rw [rZ0 z2]; exact ⟨rfl, rfl, rfl⟩) b2) (fun r' ⟨c1, c2, c3⟩ => ?_)
      have e := stl_mom hg
      rw [bind_as]
      refine wp_bm (wp_passHour c2 (by rw [e.2]; exact hg.hr) (by rw [e.1]; exact hg.dy)) (fun m3 ⟨d1, d2⟩ => ?_)
      obtain ⟨m4, eO, q1, q2⟩ := wp_isOver r2
      rw [eO, Option.bind_some]
      have k3 : eqO [26, 27, 29, z + 13, z + 16, 16, 17, 18, 19, 20, 21, 22, 23] mC0 m3 := (k2.trans (c3.mono (by simp))).trans (d2.mono (by simp))
      have f3 : frA 1 mM0 m4 := (f.trans r3).trans q1.A
      exact ih n k (i + 1) v m3 m4 (playS Z T) (by omega) (by omega) (by omega) (by omega) (by omega) c ⟨k3, f3, d1, q2 (by rw [e.1, e.2]; exact (show mom T < 23999 by omega))⟩ (by rw [play_mom hg]; omega)
    · rw [if_neg c, if_pos (show v * 2 = N by omega)]
      exact wp_some (wp_some ⟨rfl, fin m2 rr.2 0 k2 (f.trans r3)⟩)
theorem rs_torn {mC mM : zM} (h : Rel mC mM) : wp (C_torn mC) (fun a => wp (M_torn mM) (fun b => a.1 = b.1 ∧ Rel a.2 b.2)) := by
  obtain ⟨z, Z, S, b, hr⟩ := h.toZ
  obtain ⟨hz, h12, hs, hg, hu, hZ, hS⟩ := id hr
  obtain ⟨t1, t2, t3, t4⟩ := id hs.1
  have n1 := hg.nb
  have n2 := hg.ng
  have d0 := hg.dy
  have r0 := hg.hr
  have hm : 0 ≤ mom S ∧ mom S ≤ 23999 := by unfold mom; omega
  obtain ⟨v, v1, v2, v3⟩ := holds_ok (m := mC) (f := Z 0 0) (s := Z 0 1) t2 t3
  unfold C_torn M_torn
  rw [mro_ok h12 (kdz hz), mro_ok h12 (kdz hz), show mC z 0 = Z 0 0 from by rw [rZ0 hZ], show mC z 1 = Z 0 1 from by rw [rZ0 hZ], v1, Option.bind_some, pf_ok, ← t1]
  have hE : RelZ (upm mC 2 1 0) (upm mM 0 1 0) z Z S b := by
    have R := h.empty
    obtain ⟨z', hs', hn', hu'⟩ := R
    have ez : (z' : Int) = z := by have := hs'.2.2.1.2.1; rw [ru1 (by decide), h12] at this; omega
    have ez' : z' = z := by omega
    subst ez'
    have gZ : zv (upm mC 2 1 0) z' = Z := by rw [zv_upm (by omega), hZ]
    have gS : sv (upm mC 2 1 0) 8 = S := by rw [sv_upm (by omega), hS]
    refine ⟨hz, hs'.2.2.1.2.1, hs', ?_, hu', gZ, gS⟩
    rw [gZ, gS] at hn'
    exact ⟨hg.1.same (fun a a1 a2 => upm_ne (by omega)), hn', by rw [ru2 (by decide)]; exact hg.2.2.1, hg.2.2.2⟩
  -- what the model does where it is no row
  have bad : M_torn_b30 (mC 2 1) (upm mM 0 1 0) = (M_refuses 5 (upm mM 0 1 0)).bind (fun r2 => some (r2.1, r2.2)) := by
    show M_torn_B34 _ _ _ _ _ _ = _
    unfold M_torn_B34
    by_cases c : 0 < mC 2 1
    · rw [if_pos c, if_pos p00]; rfl
    · rw [if_neg c]; rfl
  by_cases q : 2 ≤ mC 2 1 ∧ mC 2 1 ≤ 32 ∧ mC 2 1 % 2 = 0
  · obtain ⟨w, w1, w2, w3⟩ := tornM_L (k83 := fun x1_1 x2_1 m2 => M_torn_b83 x1_1 x2_1 m2) (m := upm mM 0 1 0) (Z := Z) (S := S) hE.2.2.2.1 q.2.1 q.2.2 (fun i i0 i1 => by rw [upm_ne (by decide), ← (t4 i i0 i1).1]; exact (t4 i i0 i1).2.1) (mC 2 1 / 2).toNat 1000000 1 0 (by omega) (by omega) (by omega) (Or.inr rfl)
    have vw : v = 1 ↔ w = 1 := by
      rw [v3, w3]
      constructor
      · intro t
        refine ⟨rfl, fun j j0 j1 => ?_⟩
        rw [upm_ne (by decide), ← (t4 j j0 j1).1]
        exact t.2.2.2 j j0 j1
      · intro t
        refine ⟨q.1, q.2.1, q.2.2, fun j j0 j1 => ?_⟩
        have := t.2 j j0 j1
        rw [upm_ne (by decide), ← (t4 j j0 j1).1] at this
        exact this
    rw [if_pos (show 0 < mC 2 1 by omega), rmI_n t2 (by omega) (by decide) (by decide), if_pos q.2.2, if_neg (show ¬ 32 < mC 2 1 by omega)]
    unfold M_torn_b31
    rw [w1]
    show wp _ (fun a => wp (M_torn_b83 (mC 2 1) w (upm mM 0 1 0)) _)
    unfold M_torn_b83
    by_cases e : v = 0
    · rw [if_pos e, if_pos (show w = 0 by omega)]
      exact rs_noneT h
    · rw [if_neg e, if_neg (show ¬ w = 0 by omega)]
      unfold C_hoursUntilCome
      rw [bind_as]
      refine wp_bm (wp_copyFrom (o := 16) (p := 8) (by decide)) (fun m1 ⟨e1, e2⟩ => ?_)
      obtain ⟨m2, eM, q1, q2⟩ := wp_copies hE.2.2.2.1.2.1 n1 n2 (to := 1) (by decide) (by decide) (by decide) (by decide) (by decide)
      have s8 : sv m1 8 = S := by rw [← hS]; exact sv_eq fun k hk => e2 _ (by simp; omega)
      rw [eM, Option.bind_some]
      unfold St_moment
      rw [bind_as, Option.bind_some, rS00 s8, rS01 s8, wI_ok (x := S 0 0 * 24) (by omega) (by omega), wI_ok (x := S 0 0 * 24 + S 0 1) (by omega) (by omega), lt_ok, wI_ok (x := 23999 - (S 0 0 * 24 + S 0 1)) (by omega) (by omega)]
      rw [show S 0 0 * 24 + S 0 1 = mom S from by unfold mom; omega]
      have hT : RelT z Z b mC (upm mM 0 1 0) m1 m2 S := ⟨e2.mono (by simp), q2.A, by rw [e1, hS], hE.2.2.2.1.1.same (fun a a1 a2 => q2.1 a (by omega)), q1, by rw [q2.1 0 (by omega)]; exact hE.2.2.2.1.2.2.1, hg.2.2.2.1, by decide, by decide⟩
      exact torn_L hE q.2.2 q.1 q.2.1 rfl (tb := mC 3) (fun i i0 i1 => rfl) (fun i i0 i1 => by rw [upm_ne (by decide), ← (t4 i i0 i1).1]) rfl (min 100 (23999 - mom S)).toNat 1000000 1000000 0 0 m1 m2 S (by omega) (by omega) (by omega) (by omega) (by omega) (by omega) hT (by omega)
  · have v0 : v = 0 := by
      rcases v2 with e | e
      · exact e
      · exact absurd (by have := v3.mp e; exact ⟨this.1, this.2.1, this.2.2.1⟩) q
    rw [if_pos v0]
    have eM : (if 0 < mC 2 1 then (if rmI (mC 2 1) 2 = 0 then (if 32 < mC 2 1 then M_torn_b30 (mC 2 1) (upm mM 0 1 0) else M_torn_b31 (mC 2 1) 1 (upm mM 0 1 0)) else M_torn_b30 (mC 2 1) (upm mM 0 1 0)) else M_torn_b30 (mC 2 1) (upm mM 0 1 0)) = M_torn_b30 (mC 2 1) (upm mM 0 1 0) := by
      rw [rmI_n t2 (by omega) (by decide) (by decide)]
      by_cases c1 : 0 < mC 2 1
      · rw [if_pos c1]
        by_cases c2 : mC 2 1 % 2 = 0
        · rw [if_pos c2]
          by_cases c3 : 32 < mC 2 1
          · rw [if_pos c3]
          · exact absurd ⟨by omega, by omega, c2⟩ q
        · rw [if_neg c2]
      · rw [if_neg c1]
    rw [eM, bad]
    exact rs_noneT h
