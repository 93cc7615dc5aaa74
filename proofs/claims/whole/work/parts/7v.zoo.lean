/-! zoo: the call -/
def zc0 (zd : Nat) (m : zM) : zM := upm (upm (upm (upm (upm (upm (upm (upm (upm (upm (upm (upm (upm m 1 3 ((zd : Int) + 1)) zd 0 0) zd 1 0) (zd + 11) 1 0) (zd + 14) 1 0) zd 14 6) zd 15 1) zd 16 3) zd 17 5) zd 18 0) 1 1 0) 1 2 (-1)) 1 7 0
theorem parse_0 {zd : Nat} {m : zM} (hd : zd = 55 ∨ zd = 72) : Pa_parse zd m = (Ta_split (zc0 zd m)).bind (fun r9 => Pa_parse_L36 1000000 0 r9) := by
  unfold Pa_parse
  rw [pf_ok, mro_ok (z := zd) (ru3 rfl rfl) (kdz hd)]
  unfold Zo_clear
  rfl
theorem zc0_f {zd : Nat} {m : zM} : eqO (zcl zd) m (zc0 zd m) := by
  unfold zc0 zcl
  exact ((((((((((((eqO.refl.put (by simp)).put (by simp)).put (by simp)).put (by simp)).put (by simp)).put (by simp)).put (by simp)).put (by simp)).put (by simp)).put (by simp)).put (by simp)).put (by simp)).put (by simp)
theorem zc0_r {zd : Nat} {m : zM} (hd : zd = 55 ∨ zd = 72) : (zc0 zd m 1 1 = 0 ∧ zc0 zd m 1 2 = -1 ∧ zc0 zd m 1 7 = 0 ∧ zc0 zd m 1 3 = (zd : Int) + 1) ∧ (zc0 zd m zd 0 = 0 ∧ zc0 zd m zd 1 = 0 ∧ zc0 zd m (zd + 11) 1 = 0 ∧ zc0 zd m (zd + 14) 1 = 0) ∧ zc0 zd m zd 14 = 6 ∧ zc0 zd m zd 15 = 1 ∧ zc0 zd m zd 16 = 3 ∧ zc0 zd m zd 17 = 5 ∧ zc0 zd m zd 18 = 0 := by
  unfold zc0
  refine ⟨⟨?_, ?_, ?_, ?_⟩, ⟨?_, ?_, ?_, ?_⟩, ?_, ?_, ?_, ?_, ?_⟩ <;> simp (disch := omega) only [ru1, ru2, ru3]
def zm0 (b : Int) (m : zM) : zM := upm (upm (upm (upm (upm (upm m 0 2 (m 0 1)) 0 1 0) 0 5 0) 0 8 0) 0 9 (-1)) 0 32 b
def zm2 (b : Int) (m : zM) : zM := upm (upm (upm (upm (upm m 12 (5 * b + 0) 6) 12 (5 * b + 1) 1) 12 (5 * b + 2) 3) 12 (5 * b + 3) 5) 12 (5 * b + 4) 0
def zm1 (b : Int) (m : zM) : zM := upm (upm (upm (zm2 b (upm (upm (zm0 b m) 2 b 0) 7 b 0)) 13 (2 * b) (-1)) 13 (2 * b + 1) (-1)) 0 31 0
theorem isDefault_ok {b : Int} {m : zM} (b1 : b = 0 ∨ b = 1) : M_isDefault b m = some (zm2 b m) := by
  unfold M_isDefault zm2
  rw [wI_ok (x := 5 * b) (by omega) (by omega), wI_ok (x := 5 * b + 0) (by omega) (by omega), wr_ok (by omega) (by omega), wI_ok (x := 5 * b + 1) (by omega) (by omega), wr_ok (by omega) (by omega), wI_ok (x := 5 * b + 2) (by omega) (by omega), wr_ok (by omega) (by omega), wI_ok (x := 5 * b + 3) (by omega) (by omega), wr_ok (by omega) (by omega), wI_ok (x := 5 * b + 4) (by omega) (by omega), wr_ok (by omega) (by omega)]
theorem zm2_ne {b : Int} {m : zM} {a : Nat} (h : a ≠ 12) : zm2 b m a = m a := by
  unfold zm2
  rw [upm_ne h, upm_ne h, upm_ne h, upm_ne h, upm_ne h]
theorem zoo_0 {b : Int} {m : zM} (hb : 1 - m 0 13 = b) (b1 : b = 0 ∨ b = 1) : M_zoo m = (M_ahead (zm1 b m)).bind (fun r => M_zoo_L103 (fun x1_25 m26 => M_zoo_b132 x1_25 m26) 1000000 0 r) := by
  have e13 : upm (upm (upm (upm (upm m 0 2 (m 0 1)) 0 1 0) 0 5 0) 0 8 0) 0 9 (-1) 0 13 = m 0 13 := by
    rw [ru2 (by decide), ru2 (by decide), ru2 (by decide), ru2 (by decide), ru2 (by decide)]
  have e32 : zm0 b m 0 32 = b := ru3 rfl rfl
  have f32 : upm (upm (zm0 b m) 2 b 0) 7 b 0 0 32 = b := by rw [ru1 (by decide), ru1 (by decide)]; exact e32
  have g32 : zm2 b (upm (upm (zm0 b m) 2 b 0) 7 b 0) 0 32 = b := by rw [zm2_ne (by decide)]; exact f32
  unfold M_zoo
  rw [pf_ok, pf_ok, pf_ok, pf_ok, pf_ok, pf_ok, e13, hb, wI_ok (x := b) (by omega) (by omega)]
  show wr 2 2 (zm0 b m 0 32) 0 (zm0 b m) _ = _
  rw [e32, wr_ok (by omega) (by omega), ru1 (a := 2) (b := 0) (by decide), e32, wr_ok (by omega) (by omega), f32, isDefault_ok b1, Option.bind_some, g32, wI_ok (x := 2 * b) (by omega) (by omega), wr_ok (by omega) (by omega), ru1 (a := 13) (b := 0) (by decide), g32, wI_ok (x := 2 * b) (by omega) (by omega), wI_ok (x := 2 * b + 1) (by omega) (by omega), wr_ok (by omega) (by omega), pf_ok]
  rfl
theorem zm1_B {b : Int} {m : zM} (b1 : b = 0 ∨ b = 1) : frB b (zm0 b m) (zm1 b m) := by
  have h0 : frB b (zm0 b m) (upm (upm (zm0 b m) 2 b 0) 7 b 0) := (frB.refl.put (a := 2) (by decide) (by decide) (by show 1 * b ≤ _; omega) (by show _ < 1 * b + 1; omega)).put (a := 7) (by decide) (by decide) (by show 1 * b ≤ _; omega) (by show _ < 1 * b + 1; omega)
  have h1 : frB b (zm0 b m) (zm2 b (upm (upm (zm0 b m) 2 b 0) 7 b 0)) := ((((h0.put (a := 12) (by decide) (by decide) (by show 5 * b ≤ _; omega) (by show _ < 5 * b + 5; omega)).put (a := 12) (by decide) (by decide) (by show 5 * b ≤ _; omega) (by show _ < 5 * b + 5; omega)).put (a := 12) (by decide) (by decide) (by show 5 * b ≤ _; omega) (by show _ < 5 * b + 5; omega)).put (a := 12) (by decide) (by decide) (by show 5 * b ≤ _; omega) (by show _ < 5 * b + 5; omega)).put (a := 12) (by decide) (by decide) (by show 5 * b ≤ _; omega) (by show _ < 5 * b + 5; omega)
  exact ((h1.put (a := 13) (by decide) (by decide) (by show 2 * b ≤ _; omega) (by show _ < 2 * b + 2; omega)).put (a := 13) (by decide) (by decide) (by show 2 * b ≤ _; omega) (by show _ < 2 * b + 2; omega)).put0 (by omega)
theorem zm1_r {b : Int} {m : zM} (b1 : b = 0 ∨ b = 1) : (zm1 b m 0 2 = m 0 1 ∧ zm1 b m 0 5 = 0 ∧ zm1 b m 0 8 = 0 ∧ zm1 b m 0 9 = -1 ∧ zm1 b m 0 32 = b ∧ zm1 b m 0 31 = 0) ∧ (zm1 b m 2 b = 0 ∧ zm1 b m 7 b = 0) ∧ (zm1 b m 12 (5 * b) = 6 ∧ zm1 b m 12 (5 * b + 1) = 1 ∧ zm1 b m 12 (5 * b + 2) = 3 ∧ zm1 b m 12 (5 * b + 3) = 5 ∧ zm1 b m 12 (5 * b + 4) = 0) ∧ zm1 b m 13 (2 * b + 0) = -1 ∧ zm1 b m 13 (2 * b + 1) = -1 := by
  unfold zm1 zm2 zm0
  refine ⟨⟨?_, ?_, ?_, ?_, ?_, ?_⟩, ⟨?_, ?_⟩, ⟨?_, ?_, ?_, ?_, ?_⟩, ?_, ?_⟩ <;> simp (disch := omega) only [ru1, ru2, ru3]
theorem zoo_P {mC mM : zM} {zd : Nat} {b : Int} (hd : zd = 55 ∨ zd = 72) (hT : RT (mC 3) (mC 2 1) (mM 1) (mM 0 1)) (ho : RO (mC 7)) (hb : 1 - mM 0 13 = b) (b1 : b = 0 ∨ b = 1) : wp (Pa_parse zd mC) (fun a => ∃ (y : Int) (m' : zM), M_zoo mM = M_zoo_b132 y m' ∧ ((a.1 = y ∧ 0 ≤ y ∧ y ≤ 80 ∧ ∃ (c : zX) (i' : Int), PS c zd b i' a.2 m') ∨ (a.1 = -1 ∧ FE a.2 m')) ∧ eqO (2 :: 4 :: 5 :: 6 :: zcl zd) mC a.2 ∧ frB b (zm0 b mM) m') := by
  obtain ⟨t1, t2, t3, t4⟩ := hT
  rw [parse_0 hd, zoo_0 hb b1]
  obtain ⟨⟨x1, x2, x3, x4⟩, ⟨x5, x6, x7, x8⟩, x9, x10, x11, x12, x13⟩ := zc0_r (m := mC) hd
  obtain ⟨⟨y1, y2, y3, y4, y5, y6⟩, ⟨y7, y8⟩, ⟨y9, y10, y11, y12, y13⟩, y14, y15⟩ := zm1_r (m := mM) b1
  have yB := zm1_B (m := mM) b1
  have fz := zc0_f (zd := zd) (m := mC)
  have c2 : zc0 zd mC 2 = mC 2 := fz 2 (by unfold zcl; simp; omega)
  have c3 : zc0 zd mC 3 = mC 3 := fz 3 (by unfold zcl; simp; omega)
  have c7 : zc0 zd mC 7 = mC 7 := fz 7 (by unfold zcl; simp; omega)
  generalize zc0 zd mC = c0 at *
  refine wp_bm (wp_split (m := c0) (t := mM 1) (N := mC 2 1) t2 t3 (by rw [c2]) (by rw [c3]; exact fun j j0 j1 => (t4 j j0 j1).2) (by rw [c7]; exact ho) (by rw [c3]; exact fun j j0 j1 => (t4 j j0 j1).1.symm)) (fun s ⟨k1, k2, pos, last, hL, h2⟩ => ?_)
  have l0 := hL.2.1.1
  obtain ⟨r, er, g1, g2, g3⟩ := hL.2.2.2.2 0 (by omega) l0 (zm1 b mM) yB.2.1 (by rw [y1, t1]) (by rw [y2, hL.1])
  rw [er]
  have e1 : s 1 = c0 1 := k1 1 (by decide)
  have ez : ∀ a, 7 ≤ a → s a = c0 a := fun a ha => k1 a (by simp; omega)
  have r1 : ∀ a, a ≠ 0 → r a = zm1 b mM a := fun a ha => g1.1 a (by simp; exact ha)
  have r0 : ∀ j, j = 2 ∨ 8 ≤ j → j ≠ 12 → r 0 j = zm1 b mM 0 j := fun j hj h12 => g1.2 j (by omega) (by omega) (by omega) (by omega) (by omega) h12
  have Z0 : zv s zd 0 = c0 zd := (zv_at (k := 0) (by decide)).trans (ez zd (by omega))
  have Z11 : zv s zd 11 = c0 (zd + 11) := (zv_at (k := 11) (by decide)).trans (ez (zd + 11) (by omega))
  have Z14 : zv s zd 14 = c0 (zd + 14) := (zv_at (k := 14) (by decide)).trans (ez (zd + 14) (by omega))
  have n0 : zv s zd 0 0 = 0 := by rw [Z0]; exact x5
  have n1 : zv s zd 0 1 = 0 := by rw [Z0]; exact x6
  have hZ : ZM (zv s zd) r b := by
    refine ⟨⟨by rw [r1 2 (by decide), y7, n0], by omega, by omega⟩, ⟨by rw [r1 7 (by decide), y8, n1], by omega, by omega⟩, fun i hi => ?_, fun i hi => ?_, fun i hi => ?_, fun i hi => ?_, fun i hi => ?_, fun i hi => ?_, fun i hi => ?_, fun i hi => ?_, fun i i0 i1 => ?_, fun i i0 i1 => ?_, ?_, Or.inl ⟨by rw [Z11]; exact x7, by rw [r1 13 (by decide)]; exact y14⟩, Or.inl ⟨by rw [Z14]; exact x8, by rw [r1 13 (by decide)]; exact y15⟩⟩
    · have q0 := hi.1
      have q1 := hi.2
      exfalso
      omega
    · have q0 := hi.1
      have q1 := hi.2
      exfalso
      omega
    · have q0 := hi.1
      have q1 := hi.2
      exfalso
      omega
    · have q0 := hi.1
      have q1 := hi.2
      exfalso
      omega
    · have q0 := hi.1
      have q1 := hi.2
      exfalso
      omega
    · have q0 := hi.1
      have q1 := hi.2
      exfalso
      omega
    · have q0 := hi.1
      have q1 := hi.2
      exfalso
      omega
    · have q0 := hi.1
      have q1 := hi.2
      exfalso
      omega
    · exfalso
      omega
    · exfalso
      omega
    · rw [r1 12 (by decide), Z0, x9, x10, x11, x12, x13, y9, y10, y11, y12, y13]
      exact ⟨⟨rfl, by decide, by decide⟩, ⟨rfl, by decide, by decide⟩, ⟨rfl, by decide, by decide⟩, ⟨rfl, by decide, by decide⟩, ⟨rfl, by decide, by decide⟩⟩
  have h50 : 0 ≤ s 5 0 := by
    have w := hL.2.2.2.1 0 (by omega) l0
    omega
  have hPS : PS (s, mM 1, mC 2 1, pos, last) zd b 0 s r := by
    refine ⟨⟨⟨rfl, rfl, rfl, rfl, by rw [e1]; exact x1, by rw [e1]; exact x2⟩, by rw [e1]; exact x3⟩, ⟨⟨Int.le_refl 0, l0⟩, g2, g3, ?_, ?_, ?_, ?_⟩, hd, by rw [e1]; exact x4, ?_, b1, hZ, ⟨?_, ?_⟩, fun w hw hn => ?_⟩
    · rw [r0 8 (by omega) (by decide)]; exact y3
    · rw [r0 2 (by omega) (by decide), y1, ← t1]
    · rw [r1 1 (by decide)]; exact yB.2.1
    · rw [r0 9 (by omega) (by decide)]; exact y4
    · rw [r0 32 (by omega) (by decide)]; exact y5
    · rw [r0 31 (by omega) (by decide), y6]; exact Int.le_refl 0
    · rw [r0 31 (by omega) (by decide), y6]; exact h50
    · rcases hw with e | e
      · subst e
        exact absurd (by rw [r1 13 (by decide)]; exact y14) hn
      · subst e
        exact absurd (by rw [r1 13 (by decide)]; exact y15) hn
  refine wp_mono (parse_J (c := (s, mM 1, mC 2 1, pos, last)) (mC0 := s) (mM0 := zm0 b mM) (K := fun x1_25 m26 => M_zoo_b132 x1_25 m26) ⟨hL, t2, t3⟩ h2 80 1000000 1000000 0 0 s r (by decide) (by decide) (by omega) (by omega) hPS (fun w => absurd w (by decide)) frC.refl (yB.trans g1.G.B)) (fun a ⟨y, m', h1, h3, h4, h5⟩ => ?_)
  refine ⟨y, m', ?_, ?_, ?_, h5⟩
  · rw [Option.bind_some]
    exact h1
  · rcases h3 with ⟨a1, a2, a3, i', a4⟩ | w
    · exact Or.inl ⟨a1, a2, a3, _, i', a4⟩
    · exact Or.inr w
  · exact ((fz.mono (fun a ha => by simp [ha])).trans (k1.mono (fun a ha => by simp at ha ⊢; omega))).trans (h4.1.mono (fun a ha => by simp [ha]))
/-- the zoo is refused: the object stays, the fault is told -/
theorem zoo_bad {mC mM p q : zM} {z zd : Nat} {b : Int} (hs : RS mC mM z) (hn : SM (zv mC z) (sv mC 8) mM 0) (hu : RU mC mM z) (hzd : (zd = 55 ∧ z = 72) ∨ (zd = 72 ∧ z = 55)) (hb : 1 - mM 0 13 = b) (pk : ∀ k, k ≠ 1 → k ≠ 2 → k ≠ 4 → k ≠ 5 → k ≠ 6 → (k < zd ∨ zd + 15 < k) → p k = mC k) (qM : ∀ a, 26 ≤ a → q a = mM a) (q0 : ∀ j, j = 13 ∨ 44 ≤ j → q 0 j = mM 0 j) (bk : ∀ a, 2 ≤ a → a ≤ 18 → ∀ i, (i < bay a * b ∨ bay a * b + bay a ≤ i) → q a i = mM a i) (hT : p 2 1 = 0 ∧ q 0 1 = 0) (hF : p 1 1 = q 0 10 ∧ p 1 2 = q 0 11) : Rel p q := by
  obtain ⟨g1, g2, ⟨hz, r1, r2, r3, r4⟩, g4, g5, g6, g7, g8⟩ := hs
  have n1 : zv mC z 0 0 ≤ 6 := r4.1.2.2
  have n2 : zv mC z 0 1 ≤ 8 := r4.2.1.2.2
  have ez : zv p z = zv mC z := zv_eq fun k k1 _ => pk _ (by omega) (by omega) (by omega) (by omega) (by omega) (by omega)
  have p0 : p 0 = mC 0 := pk 0 (by decide) (by decide) (by decide) (by decide) (by decide) (by omega)
  have e13 : q 0 13 = mM 0 13 := q0 13 (by omega)
  refine ⟨z, ⟨⟨by rw [hT.1, hT.2], by rw [hT.1]; decide, by rw [hT.1]; decide, fun i i0 i1 => by rw [hT.1] at i1; omega⟩, hF, ⟨hz, by rw [p0]; exact r1, by rw [p0]; exact r2, by rw [e13]; exact r3, ?_⟩, ?_, ?_, ?_, ?_, ?_⟩, ?_, ?_⟩
  · rw [ez, e13]
    exact r4.bank r3 (b' := b) (by omega) (by omega) bk
  · unfold RL
    rw [ez, pk 40 (by decide) (by decide) (by decide) (by decide) (by decide) (by omega), pk 42 (by decide) (by decide) (by decide) (by decide) (by decide) (by omega), qM 43 (by decide), qM 44 (by decide), q0 65 (by omega)]
    exact g4
  · unfold RI
    rw [pk 52 (by decide) (by decide) (by decide) (by decide) (by decide) (by omega), pk 53 (by decide) (by decide) (by decide) (by decide) (by decide) (by omega), qM 52 (by decide), q0 76 (by omega)]
    exact g5
  · rw [pk 54 (by decide) (by decide) (by decide) (by decide) (by decide) (by omega), qM 26 (by decide)]
    exact g6
  · rw [p0, q0 58 (by omega)]
    exact g7
  · rw [pk 7 (by decide) (by decide) (by decide) (by decide) (by decide) (by omega)]
    exact g8
  · rw [ez, sv_eq (o := 8) (fun k hk => pk _ (by omega) (by omega) (by omega) (by omega) (by omega) (by omega))]
    exact hn.same n1 n2 (fun a a1 a2 i _ _ => by rw [qM a (by omega)])
  · obtain ⟨u1, u2, u3⟩ := hu
    unfold RU
    rw [p0, ez, q0 56 (by omega), q0 57 (by omega)]
    refine ⟨u1, u2, fun k k0 k1 => ?_⟩
    rw [sv_eq (o := 89 + 8 * ((mC 0 14 + k) % 20).toNat) (fun k hk => pk _ (by omega) (by omega) (by omega) (by omega) (by omega) (by omega))]
    exact (u3 k k0 k1).same n1 n2 (fun a a1 a2 i _ _ => by rw [qM a (by omega)])
/-- the zoo is taken -/
theorem zoo_good {mC mM p q u v : zM} {z zd : Nat} {b : Int} (hs : RS mC mM z) (hu : RU mC mM z) (hzd : (zd = 55 ∧ z = 72) ∨ (zd = 72 ∧ z = 55)) (b1 : b = 0 ∨ b = 1) (hZ : ZM (zv u zd) v b) (pk : ∀ k, k = 7 ∨ (52 ≤ k ∧ k ≤ 54) → p k = mC k) (pz : ∀ k, 55 ≤ k → p k = u k) (p0 : p 0 12 = (zd : Int) + 1 ∧ p 0 13 = 128 - (zd : Int) ∧ p 0 14 = mC 0 14 ∧ p 0 15 = 0 ∧ p 0 16 = mC 0 16) (p1 : p 2 1 = 0 ∧ p 40 0 = 0) (hF : p 1 1 = q 0 10 ∧ p 1 2 = q 0 11) (qv : ∀ a, 2 ≤ a → a ≤ 18 → q a = v a) (q1 : ∀ a, a = 26 ∨ a = 52 → q a = mM a) (q0 : q 0 1 = 0 ∧ q 0 13 = b ∧ q 0 56 = mM 0 56 ∧ q 0 57 = 0 ∧ q 0 58 = mM 0 58 ∧ q 0 65 = 0 ∧ q 0 76 = mM 0 76) (c : (p 8 0 = 0 ∧ p 8 1 = 0 ∧ p 8 2 = 0 ∧ p 8 10 = 0 ∧ p 8 11 = 0) ∧ (∀ j, 0 ≤ j → j < 24 → p 9 j = u (zd + 10) j) ∧ (∀ j, 0 ≤ j → j < 18 → p 12 j = u (zd + 5) j) ∧ (∀ j, 0 ≤ j → j < 8 → p 10 j = -1 ∧ p 11 j = 0) ∧ ∀ j, 0 ≤ j → j < 48 → p 13 j = 0 ∧ p 14 j = 0) (d : (q 27 0 = 0 ∧ q 28 0 = 0 ∧ q 35 0 = 0) ∧ (∀ j, 0 ≤ j → j < 24 → q 29 j = v 8 (24 * b + j)) ∧ (∀ j, 0 ≤ j → j < 18 → q 32 j = v 6 (18 * b + j)) ∧ (∀ j, 0 ≤ j → j < 8 → q 30 j = -1 ∧ q 31 j = 0) ∧ ∀ j, 0 ≤ j → j < 48 → q 33 j = 0 ∧ q 34 j = 0) : Rel p q := by
  obtain ⟨g1, g2, g3, g4, g5, g6, g7, g8⟩ := hs
  obtain ⟨w1, w2, w3, w4, w5⟩ := p0
  obtain ⟨v1, v2, v3, v4, v5, v6, v7⟩ := q0
  have ez : zv p zd = zv u zd := zv_eq fun k k1 _ => pz _ (by omega)
  refine ⟨zd, ⟨⟨by rw [p1.1, v1], by rw [p1.1]; decide, by rw [p1.1]; decide, fun i i0 i1 => by rw [p1.1] at i1; omega⟩, hF, ⟨by omega, w1, w2, by rw [v2]; exact b1, ?_⟩, ⟨by rw [p1.2, v6], by rw [p1.2]; decide, by rw [p1.2]; decide, fun k k0 k1 => by rw [p1.2] at k1; omega⟩, ?_, ?_, ?_, ?_⟩, ?_, ⟨?_, ?_, fun k k0 k1 => by rw [w4] at k1; omega⟩⟩
  · rw [ez, v2]
    exact hZ.same qv
  · unfold RI
    rw [pk 52 (by omega), pk 53 (by omega), q1 52 (by omega), v7]
    exact g5
  · rw [pk 54 (by omega), q1 26 (by omega)]
    exact g6
  · rw [w5, v5]
    exact g7
  · rw [pk 7 (by omega)]
    exact g8
  · rw [ez]
    refine SM.begin hZ ⟨c.1, fun j j0 j1 => ?_, fun j j0 j1 => ?_, fun j j0 j1 => ⟨?_, ?_⟩, fun j j0 j1 => ⟨?_, ?_⟩⟩ d
    · rw [sv_1 j0 j1, zv_at (k := 10) (by decide)]
      exact c.2.1 j j0 j1
    · rw [sv_4 j0 j1, zv_at (k := 5) (by decide)]
      exact c.2.2.1 j j0 j1
    · rw [sv_2 j0 j1]
      exact (c.2.2.2.1 j j0 j1).1
    · rw [sv_3 j0 j1]
      exact (c.2.2.2.1 j j0 j1).2
    · rw [sv_5 j0 j1]
      exact (c.2.2.2.2 j j0 j1).1
    · rw [sv_6 j0 j1]
      exact (c.2.2.2.2 j j0 j1).2
  · rw [w3, v3]
    exact hu.1
  · rw [w4, v4]
    exact ⟨rfl, by decide, by decide⟩
theorem rs_zoo {mC mM : zM} (h : Rel mC mM) : wp (C_zoo mC) (fun a => wp (M_zoo mM) (fun b => a.1 = b.1 ∧ Rel a.2 b.2)) := by
  obtain ⟨z, hs, hn, hu⟩ := h
  obtain ⟨hz, r1, r2, r3, r4⟩ := hs.2.2.1
  obtain ⟨zd, hzd⟩ : ∃ zd : Nat, (zd = 55 ∧ z = 72) ∨ (zd = 72 ∧ z = 55) := by
    rcases hz with e | e
    · exact ⟨72, Or.inr ⟨rfl, e⟩⟩
    · exact ⟨55, Or.inl ⟨rfl, e⟩⟩
  have hd : zd = 55 ∨ zd = 72 := by omega
  have e13 : mC 0 13 = (zd : Int) + 1 := by omega
  obtain ⟨b, hb⟩ : ∃ b, 1 - mM 0 13 = b := ⟨_, rfl⟩
  have b1 : b = 0 ∨ b = 1 := by omega
  unfold C_zoo
  rw [mro_ok (z := zd) e13 (kdz hd)]
  refine wp_bm (zoo_P hd hs.1 hs.2.2.2.2.2.2.2 hb b1) (fun a ⟨y, m', eM, w, fC, fM⟩ => ?_)
  have fk : ∀ k, k ≠ 1 → k ≠ 2 → k ≠ 4 → k ≠ 5 → k ≠ 6 → (k < zd ∨ zd + 15 < k) → a.2 k = mC k := fun k h1 h2 h4 h5 h6 h7 => fC k (by unfold zcl; simp; omega)
  have f0 : ∀ j, j = 13 ∨ 44 ≤ j → m' 0 j = mM 0 j := by
    intro j hj
    rw [fM.2.2.1 j (by omega)]
    unfold zm0
    rw [ru2 (by omega), ru2 (by omega), ru2 (by omega), ru2 (by omega), ru2 (by omega), ru2 (by omega)]
  have f01 : m' 0 1 = 0 := by
    rw [fM.2.2.1 1 (by omega)]
    unfold zm0
    rw [ru2 (by decide), ru2 (by decide), ru2 (by decide), ru2 (by decide), ru3 rfl rfl]
  have f26 : ∀ k, 26 ≤ k → m' k = mM k := by
    intro k hk
    rw [fM.1 k hk]
    unfold zm0
    rw [upm_ne (by omega), upm_ne (by omega), upm_ne (by omega), upm_ne (by omega), upm_ne (by omega), upm_ne (by omega)]
  have fb : ∀ k, 2 ≤ k → k ≤ 18 → ∀ i, (i < bay k * b ∨ bay k * b + bay k ≤ i) → m' k i = mM k i := by
    intro k k2 k18 i hi
    rw [fM.2.2.2 k k2 k18 i hi]
    unfold zm0
    rw [ru1 (by omega), ru1 (by omega), ru1 (by omega), ru1 (by omega), ru1 (by omega), ru1 (by omega)]
  rw [eM, pf_ok]
  unfold M_zoo_b132
  rw [pf_ok, pf_ok, ru2 (a := 0) (i := 10) (j := 9) (by decide), ru2 (a := 0) (i := 11) (j := 8) (by decide), ru2 (a := 0) (i := 10) (j := 8) (by decide), ru2 (a := 0) (i := 11) (j := 32) (by decide), ru2 (a := 0) (i := 10) (j := 32) (by decide)]
  have G8 : ∀ m2 : zM, m2 = upm (upm m' 0 10 (m' 0 8)) 0 11 (m' 0 9) → (∀ k, k ≠ 0 → m2 k = m' k) ∧ (∀ j, j ≠ 10 → j ≠ 11 → m2 0 j = m' 0 j) ∧ m2 0 10 = m' 0 8 ∧ m2 0 11 = m' 0 9 := by
    intro m2 e
    subst e
    exact ⟨fun k hk => by rw [upm_ne hk, upm_ne hk], fun j h1 h2 => by rw [ru2 h2, ru2 h1], by rw [ru2 (by decide), ru3 rfl rfl], ru3 rfl rfl⟩
  rcases w with ⟨a1, a2, a3, c, i', hPS⟩ | ⟨a1, hFE⟩
  · have z8 : m' 0 8 = 0 := hPS.2.1.2.2.2.1
    have z9 : m' 0 9 = -1 := hPS.2.1.2.2.2.2.2.2
    have z32 : m' 0 32 = b := hPS.2.2.2.2.1
    have zZ : ZM (zv a.2 zd) m' b := hPS.2.2.2.2.2.2.1
    have y11 : a.2 1 1 = 0 := hPS.1.1.2.2.2.2.1
    have y12 : a.2 1 2 = -1 := hPS.1.1.2.2.2.2.2
    have a0 : a.2 0 = mC 0 := fk 0 (by decide) (by decide) (by decide) (by decide) (by decide) (by omega)
    rw [if_neg (by omega), mro_ok (z := z) (by rw [ru1 (by decide), a0]; exact r1) (kdz hz), mro_ok (z := zd) (by rw [ru1 (by decide), a0]; exact e13) (kdz hd), pf_ok, pf_ok, mro_ok (z := zd) (by rw [ru2 (by decide), ru3 rfl rfl]) (kdz hd)]
    refine wp_bm (begin_C hd) (fun r ⟨c1, c2, c3, c4, c5, c6⟩ => ?_)
    rw [pf_ok, pf_ok, if_neg (show ¬ 0 < m' 0 8 by omega), pf_ok]
    obtain ⟨G1, G2, G3, G4⟩ := G8 _ rfl
    generalize upm (upm m' 0 10 (m' 0 8)) 0 11 (m' 0 9) = m2 at *
    refine wp_some (wp_bm (begin_M (b := b) (by rw [ru3 rfl rfl]; exact z32) b1) (fun s ⟨d1, d2, d3, d4, d5, d6, d7⟩ => ?_))
    refine wp_some ⟨a1, ?_⟩
    show Rel (upm (upm r 40 0 0) 0 15 0) s
    obtain ⟨d30, d31, d32, d33, d34⟩ := d3
    have P : ∀ k, k ≠ 0 → k ≠ 2 → k ≠ 40 → (k < 8 ∨ 14 < k) → upm (upm r 40 0 0) 0 15 0 k = a.2 k := by
      intro k h0 h2 h40 h8
      rw [upm_ne h0, upm_ne h40, c1 k (by simp; omega), upm_ne h0, upm_ne h0, upm_ne h2]
    have P8 : ∀ k, 8 ≤ k → k ≤ 14 → upm (upm r 40 0 0) 0 15 0 k = r k := by
      intro k h8 h14
      rw [upm_ne (by omega), upm_ne (by omega)]
    have rz : r 0 = upm (upm (upm a.2 2 1 0) 0 12 ((zd : Int) + 1)) 0 13 ((z : Int) + 1) 0 := c1 0 (by decide)
    have S1 : ∀ k, k ≠ 0 → (k < 27 ∨ 36 < k) → s k = m' k := fun k h0 h1 => by rw [d1 k h0 h1, upm_ne h0, G1 k h0]
    have S0 : ∀ j, j ≠ 57 → j ≠ 65 → j ≠ 13 → j ≠ 10 → j ≠ 11 → s 0 j = m' 0 j := fun j h1 h2 h3 h4 h5 => by rw [d2 j h1 h2, ru2 h3, G2 j h4 h5]
    refine zoo_good (u := a.2) (v := m') hs hu hzd b1 zZ ?_ (fun k hk => P k (by omega) (by omega) (by omega) (by omega)) ⟨?_, ?_, ?_, ru3 rfl rfl, ?_⟩ ⟨?_, ?_⟩ ⟨?_, ?_⟩ (fun k k2 k18 => S1 k (by omega) (by omega)) ?_ ⟨?_, ?_, ?_, d30, ?_, d31, ?_⟩ ⟨?_, ?_, ?_, ?_, ?_⟩ ⟨⟨d32, d33, d34⟩, ?_, ?_, d6, d7⟩
    · intro k hk
      rw [P k (by omega) (by omega) (by omega) (by omega), fk k (by omega) (by omega) (by omega) (by omega) (by omega) (by omega)]
    · rw [ru2 (by decide), ru1 (by decide), rz, ru2 (by decide), ru3 rfl rfl]
    · rw [ru2 (by decide), ru1 (by decide), rz, ru3 rfl rfl]
      omega
    · rw [ru2 (by decide), ru1 (by decide), rz, ru2 (by decide), ru2 (by decide), ru1 (by decide), a0]
    · rw [ru2 (by decide), ru1 (by decide), rz, ru2 (by decide), ru2 (by decide), ru1 (by decide), a0]
    · rw [ru1 (by decide), ru1 (by decide), c1 2 (by decide), ru1 (by decide), ru1 (by decide), ru3 rfl rfl]
    · rw [ru1 (by decide), ru3 rfl rfl]
    · rw [P 1 (by decide) (by decide) (by decide) (by decide), d2 10 (by decide) (by decide), ru2 (by decide), G3, z8, y11]
    · rw [P 1 (by decide) (by decide) (by decide) (by decide), d2 11 (by decide) (by decide), ru2 (by decide), G4, z9, y12]
    · intro k hk
      rw [S1 k (by omega) (by omega), f26 k (by omega)]
    · rw [S0 1 (by decide) (by decide) (by decide) (by decide) (by decide)]; exact f01
    · rw [d2 13 (by decide) (by decide), ru3 rfl rfl]; exact z32
    · rw [S0 56 (by decide) (by decide) (by decide) (by decide) (by decide), f0 56 (by omega)]
    · rw [S0 58 (by decide) (by decide) (by decide) (by decide) (by decide), f0 58 (by omega)]
    · rw [S0 76 (by decide) (by decide) (by decide) (by decide) (by decide), f0 76 (by omega)]
    · rw [P8 8 (by decide) (by decide)]; exact c2
    · intro j j0 j1
      rw [P8 9 (by decide) (by decide), c3 j j0 j1, ru1 (by omega), ru1 (by omega), ru1 (by omega)]
    · intro j j0 j1
      rw [P8 12 (by decide) (by decide), c4 j j0 j1, ru1 (by omega), ru1 (by omega), ru1 (by omega)]
    · rw [P8 10 (by decide) (by decide), P8 11 (by decide) (by decide)]; exact c5
    · rw [P8 13 (by decide) (by decide), P8 14 (by decide) (by decide)]; exact c6
    · intro j j0 j1
      rw [d4 j j0 j1, upm_ne (by decide), G1 8 (by decide)]
    · intro j j0 j1
      rw [d5 j j0 j1, upm_ne (by decide), G1 6 (by decide)]
  · rw [if_pos a1, if_pos hFE.2.2]
    obtain ⟨G1, G2, G3, G4⟩ := G8 _ rfl
    refine rs_none ?_ (by decide) (by decide)
    refine zoo_bad (z := z) (zd := zd) (b := b) hs hn hu hzd hb (fun k h1 h2 h4 h5 h6 h7 => by rw [upm_ne h2, fk k h1 h2 h4 h5 h6 h7]) (fun k hk => by rw [G1 k (by omega), f26 k hk]) (fun j hj => by rw [G2 j (by omega) (by omega), f0 j hj]) (fun k k2 k18 i hi => by rw [G1 k (by omega), fb k k2 k18 i hi]) ⟨ru3 rfl rfl, by rw [G2 1 (by decide) (by decide)]; exact f01⟩ ⟨?_, ?_⟩
    · rw [ru1 (by decide), G3]; exact hFE.1
    · rw [ru1 (by decide), G4]; exact hFE.2.1
