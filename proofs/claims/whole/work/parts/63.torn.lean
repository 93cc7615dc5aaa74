/-! rows on the tape; torn, tell -/
theorem upm_comm {m : zM} {a b : Nat} {i j v w : Int} (h : a ≠ b) : upm (upm m a i v) b j w = upm (upm m b j w) a i v := by
  rw [upm_stA, upm_stA, upm_stA, upm_stA, stA_ne (a := a) (b := b) (Ne.symm h), stA_ne (a := b) (b := a) h, stA_comm h]
theorem rs_noneT {mC mM : zM} (h : Rel mC mM) : wp ((C_refuse 5 mC).bind (fun r9 => pf 2 1 0 r9.2 (fun m12 => some (r9.1, m12)))) (fun a => wp ((M_refuses 5 (upm mM 0 1 0)).bind (fun r2 => some (r2.1, r2.2))) (fun b => a.1 = b.1 ∧ Rel a.2 b.2)) := by
  rw [C_refuse_ok (by decide) (by decide), M_refuses_ok (by decide) (by decide)]
  refine wp_some (wp_some ⟨rfl, ?_⟩)
  show Rel (upm (upm mC 54 5 (wI (mC 54 5 + 1))) 2 1 0) (upm (upm mM 0 1 0) 26 5 (wI (upm mM 0 1 0 26 5 + 1)))
  rw [ru1 (a := 0) (b := 26) (by decide), upm_comm (a := 0) (b := 26) (by decide)]
  exact (h.refuse (by decide) (by decide)).empty
/-- the bytes are rows below f and s -/
def okP (tb : Int → Int) (n f s : Int) : Prop := ∀ i, 0 ≤ i → i < n → tb i < (if i % 2 = 0 then f else s)
theorem holds_L {m : zM} {f s : Int} (hn : m 2 1 ≤ 32) : ∀ (d n : Nat) (i : Int), i + (d : Int) = m 2 1 → 0 ≤ i → d < n → ∃ v, Ta_holdsPairs_L30 m n f s i = some v ∧ (v = 0 ∨ v = 1) ∧ (v = 1 ↔ ∀ j, i ≤ j → j < m 2 1 → m 3 j < (if j % 2 = 0 then f else s)) := by
  intro d
  induction d with
  | zero =>
    intro n i hi i0 hd
    obtain ⟨n, rfl⟩ : ∃ q, n = q + 1 := ⟨n - 1, by omega⟩
    refine ⟨1, ?_, Or.inr rfl, ⟨fun _ j j0 j1 => by omega, fun _ => rfl⟩⟩
    show Ta_holdsPairs_B30 _ _ _ _ _ = _
    unfold Ta_holdsPairs_B30
    rw [if_neg (by omega)]
  | succ d ih =>
    intro n i hi i0 hd
    obtain ⟨n, rfl⟩ : ∃ q, n = q + 1 := ⟨n - 1, by omega⟩
    obtain ⟨v, v1, v2, v3⟩ := ih n (i + 1) (by omega) (by omega) (by omega)
    have e : Ta_holdsPairs_L30 m (n + 1) f s i = if m 3 i < (if i % 2 = 0 then f else s) then Ta_holdsPairs_L30 m n f s (i + 1) else some 0 := by
      show Ta_holdsPairs_B30 _ _ _ _ _ = _
      unfold Ta_holdsPairs_B30
      rw [if_pos (by omega), rd_ok i0 (by omega), rmI_n i0 (by omega) (by decide) (by decide), wI_ok (by omega) (by omega)]
      by_cases q : i % 2 = 0
      · rw [if_pos q, if_pos q]
      · rw [if_neg q, if_neg q]
    rw [e]
    by_cases c : m 3 i < (if i % 2 = 0 then f else s)
    · rw [if_pos c]
      refine ⟨v, v1, v2, v3.trans ⟨fun w j j0 j1 => ?_, fun w j j0 j1 => w j (by omega) j1⟩⟩
      by_cases q : j = i
      · subst q; exact c
      · exact w j (by omega) j1
    · rw [if_neg c]
      exact ⟨0, rfl, Or.inl rfl, ⟨fun w => by omega, fun w => absurd (w i (by omega) (by omega)) c⟩⟩
theorem holds_ok {m : zM} {f s : Int} (h0 : 0 ≤ m 2 1) (h1 : m 2 1 ≤ 1600) : ∃ v, Ta_holdsPairs f s m = some v ∧ (v = 0 ∨ v = 1) ∧ (v = 1 ↔ 2 ≤ m 2 1 ∧ m 2 1 ≤ 32 ∧ m 2 1 % 2 = 0 ∧ okP (m 3) (m 2 1) f s) := by
  unfold Ta_holdsPairs
  by_cases c1 : m 2 1 < 2
  · rw [if_pos c1]
    exact ⟨0, rfl, Or.inl rfl, ⟨fun w => by omega, fun w => by omega⟩⟩
  · rw [if_neg c1]
    by_cases c2 : 32 < m 2 1
    · rw [if_pos c2]
      exact ⟨0, rfl, Or.inl rfl, ⟨fun w => by omega, fun w => by omega⟩⟩
    · rw [if_neg c2, rmI_n h0 (by omega) (by decide) (by decide)]
      by_cases c3 : m 2 1 % 2 = 0
      · rw [if_pos c3]
        obtain ⟨v, v1, v2, v3⟩ := holds_L (m := m) (f := f) (s := s) (by omega) (m 2 1).toNat 1000000 0 (by omega) (by omega) (by omega)
        exact ⟨v, v1, v2, v3.trans ⟨fun w => ⟨by omega, by omega, c3, w⟩, fun w => w.2.2.2⟩⟩
      · rw [if_neg c3]
        exact ⟨0, rfl, Or.inl rfl, ⟨fun w => by omega, fun w => absurd w.2.2.1 c3⟩⟩
theorem tornM_L {k83 : Int → Int → zM → Option (Int × zM)} {m Z S : zM} {bk N : Int} (hg : GG Z S m bk 0) (N1 : N ≤ 32) (hN : N % 2 = 0) (ht : ∀ i, 0 ≤ i → i < N → 0 ≤ m 1 i) : ∀ (d n : Nat) (c i : Int), i + 2 * (d : Int) = N → 0 ≤ i → d < n → (c = 0 ∨ c = 1) → ∃ v, M_torn_L34 k83 n N c i m = k83 N v m ∧ (v = 0 ∨ v = 1) ∧ (v = 1 ↔ c = 1 ∧ ∀ j, i ≤ j → j < N → m 1 j < (if j % 2 = 0 then Z 0 0 else Z 0 1)) := by
  intro d
  induction d with
  | zero =>
    intro n c i hi i0 hd hc
    obtain ⟨n, rfl⟩ : ∃ q, n = q + 1 := ⟨n - 1, by omega⟩
    refine ⟨c, ?_, hc, ⟨fun w => ⟨w, fun j j0 j1 => by omega⟩, fun w => w.1⟩⟩
    show M_torn_B34 _ _ _ _ _ _ = _
    unfold M_torn_B34
    rw [if_neg (by omega)]
  | succ d ih =>
    intro n c i hi i0 hd hc
    obtain ⟨n, rfl⟩ : ∃ q, n = q + 1 := ⟨n - 1, by omega⟩
    have t0 := ht i i0 (by omega)
    have t1 := ht (i + 1) (by omega) (by omega)
    show ∃ v, M_torn_B34 _ _ _ _ _ _ = _ ∧ _
    unfold M_torn_B34
    rw [if_pos (by omega)]
    by_cases c0 : c = 0
    · rw [if_pos c0]
      exact ⟨c, rfl, hc, ⟨fun w => by omega, fun w => w.1⟩⟩
    · rw [if_neg c0, rd_ok i0 (by omega), wI_ok (x := i + 1) (by omega) (by omega), wI_ok (x := i + 2) (by omega) (by omega), rd_ok (by omega) (by omega), MG_beast hg, MG_guest hg, Option.bind_some, Option.bind_some]
      have spl : (∀ j, i ≤ j → j < N → m 1 j < (if j % 2 = 0 then Z 0 0 else Z 0 1)) ↔ m 1 i < Z 0 0 ∧ m 1 (i + 1) < Z 0 1 ∧ ∀ j, i + 2 ≤ j → j < N → m 1 j < (if j % 2 = 0 then Z 0 0 else Z 0 1) := by
        constructor
        · intro w
          have a := w i (by omega) (by omega)
          have b := w (i + 1) (by omega) (by omega)
          rw [if_pos (by omega)] at a
          rw [if_neg (by omega)] at b
          exact ⟨a, b, fun j j0 j1 => w j (by omega) j1⟩
        · intro ⟨a, b, w⟩ j j0 j1
          by_cases q0 : j = i
          · subst q0; rw [if_pos (by omega)]; exact a
          · by_cases q1 : j = i + 1
            · subst q1; rw [if_neg (by omega)]; exact b
            · exact w j (by omega) j1
      by_cases q0 : m 1 i < Z 0 0
      · rw [if_pos (show 0 ≤ m 1 i ∧ m 1 i < Z 0 0 from ⟨t0, q0⟩), if_neg n10]
        by_cases q1 : m 1 (i + 1) < Z 0 1
        · rw [if_pos (show 0 ≤ m 1 (i + 1) ∧ m 1 (i + 1) < Z 0 1 from ⟨t1, q1⟩), if_neg n10]
          obtain ⟨v, v1, v2, v3⟩ := ih n 1 (i + 2) (by omega) (by omega) (by omega) (Or.inr rfl)
          refine ⟨v, v1, v2, v3.trans ⟨fun w => ⟨by omega, spl.mpr ⟨q0, q1, w.2⟩⟩, fun w => ⟨rfl, (spl.mp w.2).2.2⟩⟩⟩
        · rw [if_neg (show ¬ (0 ≤ m 1 (i + 1) ∧ m 1 (i + 1) < Z 0 1) from fun t => q1 t.2), if_pos p00]
          obtain ⟨v, v1, v2, v3⟩ := ih n 0 (i + 2) (by omega) (by omega) (by omega) (Or.inl rfl)
          exact ⟨v, v1, v2, v3.trans ⟨fun w => by omega, fun w => absurd (spl.mp w.2).2.1 q1⟩⟩
      · rw [if_neg (show ¬ (0 ≤ m 1 i ∧ m 1 i < Z 0 0) from fun t => q0 t.2), if_pos p00]
        obtain ⟨v, v1, v2, v3⟩ := ih n 0 (i + 2) (by omega) (by omega) (by omega) (Or.inl rfl)
        exact ⟨v, v1, v2, v3.trans ⟨fun w => by omega, fun w => absurd (spl.mp w.2).1 q0⟩⟩
theorem met_0 {Z S : zM} {b g : Int} : (metS Z S b g).2 = 0 ↔ feV Z b g = 1 := by
  unfold metS
  by_cases c1 : feV Z b g = 1
  · rw [if_pos c1]; exact ⟨fun _ => c1, fun _ => rfl⟩
  · rw [if_neg c1]
    refine ⟨fun w => ?_, fun w => absurd w c1⟩
    exfalso
    by_cases c2 : LKV Z (incS S b g) b g < Z 0 15
    · rw [if_pos c2] at w; exact absurd w (by show ¬ (2 : Int) = 0; decide)
    · rw [if_neg c2] at w
      by_cases c3 : incS S b g 6 (b * 8 + g) < Z 0 16
      · rw [if_pos c3] at w; exact absurd w (by show ¬ (1 : Int) = 0; decide)
      · rw [if_neg c3] at w; exact absurd w (by show ¬ (3 : Int) = 0; decide)
def folV (Z T : zM) (tb : Int → Int) (n : Int) : Nat → Int → Int → Int
  | 0, r, _ => r
  | k + 1, r, b => if b < Z 0 0 ∧ r * 2 + 1 < n then (if akV Z T b.toNat ≠ -1 ∧ feV Z b (akV Z T b.toNat) = 0 ∧ tb (r * 2) = b ∧ tb (r * 2 + 1) = akV Z T b.toNat then folV Z T tb n k (r + 1) (b + 1) else folV Z T tb n k r (b + 1)) else r
theorem fol_b {Z T : zM} {tb : Int → Int} {n : Int} : ∀ (k : Nat) (r b : Int), 0 ≤ r → r * 2 ≤ n → 0 ≤ folV Z T tb n k r b ∧ folV Z T tb n k r b * 2 ≤ n + 1
  | 0, r, b, h0, h1 => by unfold folV; omega
  | k + 1, r, b, h0, h1 => by
    unfold folV
    by_cases c : b < Z 0 0 ∧ r * 2 + 1 < n
    · rw [if_pos c]
      by_cases d : akV Z T b.toNat ≠ -1 ∧ feV Z b (akV Z T b.toNat) = 0 ∧ tb (r * 2) = b ∧ tb (r * 2 + 1) = akV Z T b.toNat
      · rw [if_pos d]
        exact fol_b k (r + 1) (b + 1) (by omega) (by omega)
      · rw [if_neg d]
        exact fol_b k r (b + 1) h0 h1
    · rw [if_neg c]; omega
theorem ak_b {Z S mM : zM} {bk v : Int} (h : GG Z S mM bk v) (b : Nat) (hb : (b : Int) < Z 0 0) : -1 ≤ akV Z S b ∧ akV Z S b < Z 0 1 := ws_b h (by omega) hb
theorem fol_C {m Z T mM : zM} {z : Nat} {tb : Int → Int} {bk v N : Int} (hg : GG Z T mM bk v) (hZ : zv m z = Z) (hA : ∀ b : Nat, (b : Int) < Z 0 0 → m 27 b = akV Z T b) (hl : m 2 1 = N) (N1 : N ≤ 32) (ht : ∀ i, 0 ≤ i → i < N → m 3 i = tb i) : ∀ (k : Nat) (r b : Int), 0 ≤ b → b ≤ Z 0 0 → Z 0 0 - b < (k : Int) → 0 ≤ r → r * 2 ≤ N → Ke_follow_L6 m k z r b = some (folV Z T tb N k r b)
  | 0, r, b, b0, b1, b2, r0, r1 => by omega
  | k + 1, r, b, b0, b1, b2, r0, r1 => by
    have n1 := hg.nb
    have n2 := hg.ng
    show Ke_follow_B6 _ _ _ _ _ = some (if b < Z 0 0 ∧ r * 2 + 1 < N then _ else _)
    unfold Ke_follow_B6
    rw [rZ0 hZ, hl, wI_ok (x := r * 2) (by omega) (by omega), wI_ok (x := r * 2 + 1) (by omega) (by omega)]
    by_cases c : b < Z 0 0
    · rw [if_pos c]
      have e := hA b.toNat (by omega)
      have ab := ak_b hg b.toNat (by omega)
      rw [show ((b.toNat : Nat) : Int) = b from by omega] at e
      by_cases d : r * 2 + 1 < N
      · rw [if_pos d, if_pos ⟨c, d⟩, rd_ok b0 (by omega), e, wI_ok (x := b + 1) (by omega) (by omega), wI_ok (x := r + 1) (by omega) (by omega)]
        have i1 := fol_C hg hZ hA hl N1 ht k r (b + 1) (by omega) (by omega) (by omega) r0 r1
        have i2 := fol_C hg hZ hA hl N1 ht k (r + 1) (b + 1) (by omega) (by omega) (by omega) (by omega) (by omega)
        by_cases a1 : akV Z T b.toNat = -1
        · rw [if_pos a1, if_neg (show ¬ (akV Z T b.toNat ≠ -1 ∧ feV Z b (akV Z T b.toNat) = 0 ∧ tb (r * 2) = b ∧ tb (r * 2 + 1) = akV Z T b.toNat) from fun t => t.1 a1)]
          exact i1
        · rw [if_neg a1, feared_ok hZ (by omega) (by omega), Option.bind_some, rd_ok (by omega) (by omega), rd_ok (by omega) (by omega), ht _ (by omega) (by omega), ht _ (by omega) (by omega)]
          by_cases a2 : feV Z b (akV Z T b.toNat) = 0
          · rw [if_pos a2]
            by_cases a3 : tb (r * 2) = b
            · rw [if_pos a3]
              by_cases a4 : tb (r * 2 + 1) = akV Z T b.toNat
              · rw [if_pos a4, if_pos (show (akV Z T b.toNat ≠ -1 ∧ feV Z b (akV Z T b.toNat) = 0 ∧ tb (r * 2) = b ∧ tb (r * 2 + 1) = akV Z T b.toNat) from ⟨a1, a2, a3, a4⟩)]
                exact i2
              · rw [if_neg a4, if_neg (show ¬ (akV Z T b.toNat ≠ -1 ∧ feV Z b (akV Z T b.toNat) = 0 ∧ tb (r * 2) = b ∧ tb (r * 2 + 1) = akV Z T b.toNat) from fun t => a4 t.2.2.2)]
                exact i1
            · rw [if_neg a3, if_neg (show ¬ (akV Z T b.toNat ≠ -1 ∧ feV Z b (akV Z T b.toNat) = 0 ∧ tb (r * 2) = b ∧ tb (r * 2 + 1) = akV Z T b.toNat) from fun t => a3 t.2.2.1)]
              exact i1
          · rw [if_neg a2, if_neg (show ¬ (akV Z T b.toNat ≠ -1 ∧ feV Z b (akV Z T b.toNat) = 0 ∧ tb (r * 2) = b ∧ tb (r * 2 + 1) = akV Z T b.toNat) from fun t => a2 t.2.1)]
            exact i1
      · rw [if_neg d, if_neg (show ¬ (b < Z 0 0 ∧ r * 2 + 1 < N) from fun t => d t.2)]
    · rw [if_neg c, if_neg (show ¬ (b < Z 0 0 ∧ r * 2 + 1 < N) from fun t => c t.1)]
theorem fol_M {k203 : Int → Int → Int → zM → Option (Int × zM)} {m Z T T' mM : zM} {tb : Int → Int} {bk v N hh : Int} (hg : GG Z T mM bk v) (hg' : GG Z T' m bk v) (hA : ∀ b : Nat, (b : Int) < Z 0 0 → m 39 b = akV Z T b ∧ (akV Z T b ≠ -1 → (m 40 b = 0 ↔ feV Z b (akV Z T b) = 1))) (hN : N % 2 = 0) (N1 : N ≤ 32) (ht : ∀ i, 0 ≤ i → i < N → m 1 i = tb i) : ∀ (k : Nat) (r b : Int), 0 ≤ b → b ≤ Z 0 0 → Z 0 0 - b < (k : Int) → 0 ≤ r → r * 2 ≤ N → M_torn_L125 k203 k N (r * 2) hh b m = k203 N (folV Z T tb N k r b * 2) hh m
  | 0, r, b, b0, b1, b2, r0, r1 => by omega
  | k + 1, r, b, b0, b1, b2, r0, r1 => by
    have n1 := hg.nb
    have n2 := hg.ng
    have n3 := hg.bk
    show M_torn_B125 _ _ _ _ _ _ _ = k203 N ((if b < Z 0 0 ∧ r * 2 + 1 < N then _ else _) * 2) hh m
    unfold M_torn_B125
    rw [hg'.2.2.1, rd_ok (by omega) (by omega), hg'.1.1.1]
    by_cases c : b < Z 0 0
    · rw [if_pos c]
      have e := hA b.toNat (by omega)
      have ab := ak_b hg b.toNat (by omega)
      rw [show ((b.toNat : Nat) : Int) = b from by omega] at e
      by_cases d : r * 2 + 1 < N
      · rw [if_pos (show r * 2 < N by omega), if_pos ⟨c, d⟩, rd_ok b0 (by omega), rd_ok b0 (by omega), wI_ok (x := b + 1) (by omega) (by omega), wI_ok (x := r * 2 + 1) (by omega) (by omega), wI_ok (x := r * 2 + 2) (by omega) (by omega), rd_ok (by omega) (by omega), rd_ok (by omega) (by omega), rd_ok b0 (by omega), e.1, ht _ (by omega) (by omega), ht _ (by omega) (by omega)]
        have i1 := fol_M (k203 := k203) (hh := hh) hg hg' hA hN N1 ht k r (b + 1) (by omega) (by omega) (by omega) r0 r1
        have i2 := fol_M (k203 := k203) (hh := hh) hg hg' hA hN N1 ht k (r + 1) (b + 1) (by omega) (by omega) (by omega) (by omega) (by omega)
        rw [show (r + 1) * 2 = r * 2 + 2 from by omega] at i2
        by_cases a1 : akV Z T b.toNat = -1
        · rw [if_pos a1, if_neg (show ¬ (akV Z T b.toNat ≠ -1 ∧ feV Z b (akV Z T b.toNat) = 0 ∧ tb (r * 2) = b ∧ tb (r * 2 + 1) = akV Z T b.toNat) from fun t => t.1 a1)]
          exact i1
        · rw [if_neg a1]
          have fz : feV Z b (akV Z T b.toNat) = 0 ∨ feV Z b (akV Z T b.toNat) = 1 := an1 _
          have e2 := e.2 a1
          by_cases a2 : feV Z b (akV Z T b.toNat) = 0
          · rw [if_neg (show ¬ m 40 b = 0 from fun t => by have := e2.mp t; omega)]
            by_cases a3 : tb (r * 2) = b
            · rw [if_pos a3]
              by_cases a4 : tb (r * 2 + 1) = akV Z T b.toNat
              · rw [if_pos a4, if_pos (show (akV Z T b.toNat ≠ -1 ∧ feV Z b (akV Z T b.toNat) = 0 ∧ tb (r * 2) = b ∧ tb (r * 2 + 1) = akV Z T b.toNat) from ⟨a1, a2, a3, a4⟩)]
                exact i2
              · rw [if_neg a4, if_neg (show ¬ (akV Z T b.toNat ≠ -1 ∧ feV Z b (akV Z T b.toNat) = 0 ∧ tb (r * 2) = b ∧ tb (r * 2 + 1) = akV Z T b.toNat) from fun t => a4 t.2.2.2)]
                exact i1
            · rw [if_neg a3, if_neg (show ¬ (akV Z T b.toNat ≠ -1 ∧ feV Z b (akV Z T b.toNat) = 0 ∧ tb (r * 2) = b ∧ tb (r * 2 + 1) = akV Z T b.toNat) from fun t => a3 t.2.2.1)]
              exact i1
          · rw [if_pos (e2.mpr (by omega)), if_neg (show ¬ (akV Z T b.toNat ≠ -1 ∧ feV Z b (akV Z T b.toNat) = 0 ∧ tb (r * 2) = b ∧ tb (r * 2 + 1) = akV Z T b.toNat) from fun t => a2 t.2.1)]
            exact i1
      · rw [if_neg (show ¬ r * 2 < N by omega), if_neg (show ¬ (b < Z 0 0 ∧ r * 2 + 1 < N) from fun t => d t.2)]
    · rw [if_neg c, if_neg (show ¬ (b < Z 0 0 ∧ r * 2 + 1 < N) from fun t => c t.1)]
