/-! the class's hour -/
theorem wp_settle {Z S mM m : zM} {z o : Nat} {bk v : Int} (h : GG Z S mM bk v) (hZ : zv m z = Z) (hS : sv m o = S) (hz : 55 ≤ z) (ho : o + 7 < 26 ∨ 89 ≤ o) (hzo : o + 7 < z ∨ z + 16 < o) (hset : m z 15 = Z 0 15 ∧ m z 16 = Z 0 16 ∧ m z 17 = Z 0 17) (hA : ∀ b : Nat, (b : Int) < Z 0 0 → m 27 b = akV Z S b) : wp (Ke_settle z o m) (fun r => r.1 = Z 0 14 - (chV Z S (Z 0 0).toNat).2 ∧ sv r.2 o = stlV Z S (Z 0 0).toNat ∧ eqO [29, z + 13, o, o + 2, o + 3, o + 5, o + 6, o + 7] m r.2) := by
  have n1 := h.nb
  have n2 := h.ng
  have u := h.ush
  have cb := ch_b (Z := Z) (S := S) h.ush
  unfold Ke_settle
  refine wp_for (fun n i (s : Int × zM) => Ke_settle_L5 n z o s.1 i s.2) (fun i s => s.1 = Z 0 14 - (chV Z S i.toNat).2 ∧ sv s.2 o = stlV Z S i.toNat ∧ eqO [29, z + 13, o, o + 2, o + 3, o + 5, o + 6, o + 7] m s.2) _ 0 (Z 0 0) ?_ ?_ 1000000 0 (0, m) (by omega) (by omega) (by omega) ⟨by show (0 : Int) = Z 0 14 - Z 0 14; omega, hS, eqO.refl⟩
  · intro n s hI
    obtain ⟨i1, i2, i3⟩ := hI
    show wp (Ke_settle_B5 _ _ _ _ _ _) _
    unfold Ke_settle_B5
    rw [i3 z (by simp; omega), rZ0 hZ, if_neg (by omega)]
    exact wp_some ⟨i1, i2, i3⟩
  · intro n i s q0 q1 hI hr
    obtain ⟨i1, i2, i3⟩ := hI
    show wp (Ke_settle_B5 _ _ _ _ _ _) _
    unfold Ke_settle_B5
    have ei : ((i.toNat : Nat) : Int) = i := by omega
    have en : (i + 1).toNat = i.toNat + 1 := by omega
    have cbi := cb i.toNat
    have e27 : s.2 27 i = akV Z S i.toNat := by rw [i3 27 (by simp; omega), ← ei, hA i.toNat (by omega)]; rw [Int.toNat_natCast]
    have zs : zv s.2 z = Z := by rw [← hZ]; exact zv_eq fun k q1 q2 => i3 _ (by simp; omega)
    have zz : ∀ j, s.2 z j = m z j := fun j => by rw [i3 z (by simp; omega)]
    have wb := ws_b h (taken := (chV Z S i.toNat).1) (fr := (chV Z S i.toNat).2) (b := i) q0 q1
    have ew : akV Z S i.toNat = wishV Z S i (chV Z S i.toNat).1 (chV Z S i.toNat).2 := by unfold akV; rw [ei]
    rw [i3 z (by simp; omega), rZ0 hZ, if_pos q1, rd_ok q0 (by omega), e27, wI_ok (x := i + 1) (by omega) (by omega)]
    by_cases c : akV Z S i.toNat = -1
    · have ec : chV Z S (i.toNat + 1) = chV Z S i.toNat := by
        show (if _ then _ else _) = _
        rw [if_pos (show wishV Z S (i.toNat : Int) _ _ = -1 from c)]
      have es : stlV Z S (i.toNat + 1) = stlV Z S i.toNat := by
        show (if _ then _ else _) = _
        rw [if_pos c]
      rw [if_pos c]
      exact hr (s.1, s.2) ⟨by rw [en, ec]; exact i1, by rw [en, es]; exact i2, i3⟩
    · have ec : chV Z S (i.toNat + 1) = (orI (chV Z S i.toNat).1 (slI 1 (akV Z S i.toNat)), (chV Z S i.toNat).2 - 1) := by
        show (if _ then _ else _) = _
        rw [if_neg (show ¬ wishV Z S (i.toNat : Int) _ _ = -1 from c)]
        rfl
      have es : stlV Z S (i.toNat + 1) = setS Z (stlV Z S i.toNat) i (akV Z S i.toNat) := by
        show (if _ then _ else _) = _
        rw [if_neg c, ei]
      obtain ⟨m1, h1⟩ := stl_GG h i.toNat (by omega)
      rw [if_neg c, rd_ok q0 (by omega), rd_ok q0 (by omega), e27]
      refine wp_bm (wp_meet h1 zs i2 hz ho hzo (by rw [zz, zz, zz]; exact hset) q0 q1 (by omega) (by omega)) (fun r ⟨t1, t2, t3⟩ => ?_)
      obtain ⟨r', _, _, h2, _⟩ := wp_comes h1 (b := i) (g := akV Z S i.toNat) (by omega) (by omega) (by omega) (by omega)
      rw [t1]
      refine wp_bm (wp_keepRow h2 t2 q0 (by omega) (by omega) (by omega) met_oc.1 met_oc.2) (fun m2 ⟨w1, w2⟩ => ?_)
      rw [i1, wI_ok (x := Z 0 14 - (chV Z S i.toNat).2 + 1) (by omega) (by omega)]
      refine hr (Z 0 14 - (chV Z S i.toNat).2 + 1, m2) ⟨?_, ?_, ?_⟩
      · rw [en, ec]
        show Z 0 14 - (chV Z S i.toNat).2 + 1 = Z 0 14 - ((chV Z S i.toNat).2 - 1)
        omega
      · rw [en, es]
        exact w1
      · exact (i3.trans (t3.mono (by simp))).trans (w2.mono (by simp))
/-- the hour is over -/
def dawnS (S : zM) : zM := stA (stA (stA S 2 (rng (S 2) 8 (-1))) 3 (rng (S 3) 8 0)) 6 (rng (S 6) 48 0)
def overS (S : zM) : zM := if S 0 1 < 23 then upm S 0 1 (S 0 1 + 1) else dawnS (upm (upm S 0 1 0) 0 0 (S 0 0 + 1))
theorem sv_dawn {m : zM} {o : Nat} : sv (fgm o m) o = dawnS (sv m o) := by
  funext k i
  have hk : k = 2 ∨ k = 3 ∨ k = 6 ∨ (k ≠ 2 ∧ k ≠ 3 ∧ k ≠ 6) := by omega
  unfold dawnS
  rcases hk with e | e | e | ⟨e2, e3, e6⟩
  · subst e
    rw [stA_ne (by decide), stA_ne (by decide), stA_eq]
    show (if 0 ≤ i ∧ i < 8 then fgm o m (o + 2) i else 0) = (if 0 ≤ i ∧ i < 8 then -1 else if 0 ≤ i ∧ i < 8 then m (o + 2) i else 0)
    by_cases q : 0 ≤ i ∧ i < 8
    · rw [if_pos q, if_pos q]
      unfold fgm
      rw [stA_ne (by omega), stA_ne (by omega), stA_eq]
      exact if_pos q
    · rw [if_neg q, if_neg q, if_neg q]
  · subst e
    rw [stA_ne (by decide), stA_eq]
    show (if 0 ≤ i ∧ i < 8 then fgm o m (o + 3) i else 0) = (if 0 ≤ i ∧ i < 8 then 0 else if 0 ≤ i ∧ i < 8 then m (o + 3) i else 0)
    by_cases q : 0 ≤ i ∧ i < 8
    · rw [if_pos q, if_pos q]
      unfold fgm
      rw [stA_ne (by omega), stA_eq]
      exact if_pos q
    · rw [if_neg q, if_neg q, if_neg q]
  · subst e
    rw [stA_eq]
    show (if 0 ≤ i ∧ i < 48 then fgm o m (o + 6) i else 0) = (if 0 ≤ i ∧ i < 48 then 0 else if 0 ≤ i ∧ i < 48 then m (o + 6) i else 0)
    by_cases q : 0 ≤ i ∧ i < 48
    · rw [if_pos q, if_pos q]
      unfold fgm
      rw [stA_eq]
      exact if_pos q
    · rw [if_neg q, if_neg q, if_neg q]
  · rw [stA_ne e6, stA_ne e3, stA_ne e2]
    refine sv_cong k ?_
    unfold fgm
    rw [stA_ne (by omega), stA_ne (by omega), stA_ne (by omega)]
theorem fgm_fr {m : zM} {o : Nat} : eqO [o + 2, o + 3, o + 6] m (fgm o m) := fun a q => by
  simp only [List.mem_cons, List.not_mem_nil, or_false, not_or] at q
  unfold fgm
  rw [stA_ne q.2.2, stA_ne q.2.1, stA_ne q.1]
theorem wp_passHour {S m : zM} {o : Nat} (hS : sv m o = S) (h1 : 0 ≤ S 0 1 ∧ S 0 1 ≤ 23) (h0 : 0 ≤ S 0 0 ∧ S 0 0 ≤ 999) : wp (St_passHour o m) (fun r => sv r o = overS S ∧ eqO [o, o + 2, o + 3, o + 6] m r) := by
  unfold St_passHour
  rw [rS01 hS, pf_ok, wI_ok (x := S 0 1 + 1) (by omega) (by omega), ru3 rfl rfl]
  unfold overS
  by_cases c : S 0 1 < 23
  · rw [if_pos (by omega), if_pos c]
    exact wp_some ⟨by rw [sv_w0 (by omega), hS], eqO.refl.put (by simp)⟩
  · rw [if_neg (by omega), if_neg c, pf_ok, pf_ok, ru2 (by decide), ru2 (by decide), rS00 hS, wI_ok (x := S 0 0 + 1) (by omega) (by omega), St_forgetDay_ok, Option.bind_some]
    refine wp_some ⟨?_, ?_⟩
    · rw [sv_dawn, sv_w0 (by omega), sv_w0 (by omega), sv_w0 (by omega), hS]
      have e : upm (upm S 0 1 (S 0 1 + 1)) 0 1 0 = upm S 0 1 0 := by
        funext k j
        unfold upm
        by_cases q : k = 0
        · rw [if_pos q, if_pos q]
          unfold sets
          by_cases w : j = 1
          · rw [if_pos w, if_pos w]
          · rw [if_neg w, if_neg w, if_pos rfl, if_neg w]
        · rw [if_neg q, if_neg q, if_neg q]
      rw [e]
    · exact (((eqO.refl.put (by simp)).put (by simp)).put (by simp)).trans (fgm_fr.mono (by simp))
/-- the model's dawn -/
def rng2 (f : Int → Int) (b n v : Int) : Int → Int := fun j => if b ≤ j ∧ j < b + n then v else f j
def fgM (v : Int) (m : zM) : zM := stA (stA (stA m 30 (rng2 (m 30) (8 * v) 8 (-1))) 31 (rng2 (m 31) (8 * v) 8 0)) 34 (rng2 (m 34) (48 * v) 48 0)
theorem rng2_s {f : Int → Int} {b n v : Int} (h : 0 ≤ n) : sets (rng2 f b n v) (b + n) v = rng2 f b (n + 1) v := by
  funext j
  unfold sets rng2
  by_cases e : j = b + n
  · rw [if_pos e, if_pos (by omega)]
  · rw [if_neg e]
    by_cases e2 : b ≤ j ∧ j < b + n
    · rw [if_pos e2, if_pos (by omega)]
    · rw [if_neg e2, if_neg (by omega)]
theorem rng2_0 {f : Int → Int} {b v : Int} : rng2 f b 0 v = f := by
  funext j
  exact if_neg (by omega)
theorem dawns_ok {m : zM} {v : Int} (v0 : 0 ≤ v) (v1 : v ≤ 21) : M_dawns v m = some (fgM v m) := by
  have L : ∀ (n : Nat) (m1 : zM), 48 < n → wp (M_dawns_L40 n v 0 m1) (fun r => r = stA m1 34 (rng2 (m1 34) (48 * v) 48 0)) := by
    intro n m1 hn
    refine wp_for (fun n i (s : zM) => M_dawns_L40 n v i s) (fun i s => s = stA m1 34 (rng2 (m1 34) (48 * v) i 0)) _ 0 48 ?_ ?_ n 0 m1 (by omega) (by omega) (by omega) (by rw [rng2_0, stA_self])
    · intro n s hI
      subst hI
      show wp (M_dawns_B40 _ _ _ _) _
      unfold M_dawns_B40
      rw [if_neg (by omega)]
      exact wp_some rfl
    · intro n i s q0 q1 hI hr
      subst hI
      show wp (M_dawns_B40 _ _ _ _) _
      unfold M_dawns_B40
      rw [if_pos q1, wI_ok (x := 48 * v) (by omega) (by omega), wI_ok (x := 48 * v + i) (by omega) (by omega), wr_ok (by omega) (by omega), wI_ok (x := i + 1) (by omega) (by omega)]
      refine hr _ ?_
      rw [upm_stA, stA_stA, stA_eq, rng2_s q0]
  have K : wp (M_dawns v m) (fun r => r = fgM v m) := by
    unfold M_dawns
    refine wp_for (fun n i (s : zM) => M_dawns_L2 (fun x1_1 m2 => M_dawns_L40 1000000 x1_1 0 m2) n v i s) (fun i s => s = stA (stA m 30 (rng2 (m 30) (8 * v) i (-1))) 31 (rng2 (m 31) (8 * v) i 0)) _ 0 8 ?_ ?_ 1000000 0 m (by omega) (by omega) (by omega) ?_
    · intro n s hI
      subst hI
      show wp (M_dawns_B2 _ _ _ _ _) _
      unfold M_dawns_B2
      rw [if_neg (by omega)]
      refine wp_mono (L 1000000 _ (by omega)) (fun r hr => ?_)
      rw [hr, stA_ne (a := 31) (b := 34) (by decide), stA_ne (a := 30) (b := 34) (by decide)]
      rfl
    · intro n i s q0 q1 hI hr
      subst hI
      show wp (M_dawns_B2 _ _ _ _ _) _
      unfold M_dawns_B2
      rw [if_pos q1, wI_ok (x := 8 * v) (by omega) (by omega), wI_ok (x := 8 * v + i) (by omega) (by omega), wr_ok (by omega) (by omega), wr_ok (by omega) (by omega), wI_ok (x := i + 1) (by omega) (by omega)]
      refine hr _ ?_
      rw [upm_stA, upm_stA, stA_ne (a := 30) (b := 31) (by decide), stA_ne (a := 31) (b := 30) (by decide), stA_eq, stA_eq, stA_comm (a := 31) (b := 30) (by decide), stA_stA, stA_stA, rng2_s q0, rng2_s q0]
    · rw [rng2_0, rng2_0, stA_self]
      exact (stA_self (m := m) (a := 31)).symm
  obtain ⟨r, e1, e2⟩ := K
  rw [e1, e2]
theorem AR.dawn {P : Int → Prop} {f g : Int → Int} {b lo hi n x : Int} (h : ∀ i, P i → 0 ≤ i ∧ i < n) (h1 : lo ≤ x) (h2 : x ≤ hi) : AR P (rng f n x) (rng2 g b n x) b lo hi := by
  intro i hi
  have := h i hi
  unfold rng rng2
  rw [if_pos (by omega), if_pos (by omega)]
  exact ⟨rfl, h1, h2⟩
theorem fgM_fr {v : Int} {m : zM} : frM v m (fgM v m) := by
  refine ⟨fun a q => ?_, fun a q1 q2 i q3 => ?_⟩
  · unfold fgM
    rw [stA_ne (by omega), stA_ne (by omega), stA_ne (by omega)]
  · unfold fgM
    by_cases e4 : a = 34
    · subst e4
      rw [stA_eq]
      rw [show lay 34 = 48 from rfl] at q3
      exact if_neg (by omega)
    · rw [stA_ne e4]
      by_cases e1 : a = 31
      · subst e1
        rw [stA_eq]
        rw [show lay 31 = 8 from rfl] at q3
        exact if_neg (by omega)
      · rw [stA_ne e1]
        by_cases e0 : a = 30
        · subst e0
          rw [stA_eq]
          rw [show lay 30 = 8 from rfl] at q3
          exact if_neg (by omega)
        · rw [stA_ne e0]
/-- with the hour that comes next, unless it is the last one -/
theorem wp_isOver {Z S mM : zM} {bk v : Int} (h : GG Z S mM bk v) : wp (M_isOver v mM) (fun r => frM v mM r ∧ (24 * S 0 0 + S 0 1 < 23999 → GG Z (overS S) r bk v)) := by
  have n1 := h.nb
  have n2 := h.ng
  have n3 := h.bk
  have hs := h.2.1
  obtain ⟨⟨t1, t2, t3, t4, t5⟩, a2, a3, a4, a5, a6, a7, a8, a9, a10⟩ := hs
  unfold M_isOver M_hourIn
  rw [rd_ok (by omega) (by omega), t1, wI_ok (x := 24 * S 0 0 + S 0 1 + 1) (by omega) (by omega), wr_ok (by omega) (by omega), rd_ok (by omega) (by omega), ru3 rfl rfl, rmI_n (by omega) (by omega) (by omega) (by omega), Option.bind_some]
  have f1 : frM v mM (upm mM 27 v (24 * S 0 0 + S 0 1 + 1)) := frM.refl.q27
  unfold overS
  by_cases c : S 0 1 < 23
  · rw [if_neg (by omega), if_pos c]
    refine wp_some ⟨f1, fun hl => h.upd f1 ?_⟩
    unfold SM RW
    simp (disch := decide) only [upm_ne, upm_eq, ru2, sets_eq, sets_ne]
    exact ⟨⟨by omega, t2, t3, by omega, by omega⟩, a2, a3, a4, a5, a6, a7, a8, a9, a10⟩
  · rw [if_pos (by omega), if_neg c, dawns_ok (by omega) (by omega), Option.bind_some]
    refine wp_some ⟨f1.trans fgM_fr, fun hl => h.upd (f1.trans fgM_fr) ?_⟩
    unfold SM RW fgM dawnS
    simp (disch := decide) only [stA_ne, stA_eq, upm_ne, upm_eq, ru2, sets_eq, sets_ne]
    exact ⟨⟨by omega, by omega, by omega, by omega, by omega⟩, a2, a3, AR.dawn (fun i hi => by have := hi.1; have := hi.2; omega) (by omega) (by omega), AR.dawn (fun i hi => by have := hi.1; have := hi.2; omega) (by omega) (by omega), a6, a7, AR.dawn (fun i hi => by have := hi.1; have := hi.2.1; omega) (by omega) (by omega), a9, a10⟩
