/-! images -/
/-- what is written so far: in the class, in the model -/
def ICw (m0 m : zM) (L : List Int) : Prop := (∀ a, a ≠ 52 → a ≠ 53 → m a = m0 a) ∧ m 52 1 = (L.length : Int) ∧ arr (m 53) L
def IMw (m0 m : zM) (L : List Int) : Prop := (∀ a, a ≠ 0 → a ≠ 52 → m a = m0 a) ∧ (∀ j, j ≠ 76 → m 0 j = m0 0 j) ∧ m 0 76 = (L.length : Int) ∧ arr (m 52) L
theorem put_C {m0 m : zM} {L : List Int} {x : Int} (h : ICw m0 m L) (hl : L.length < 160) : ∃ m', Im_put x m = some m' ∧ ICw m0 m' (L ++ [x]) := by
  obtain ⟨h1, h2, h3⟩ := h
  refine ⟨upm (upm m 53 (L.length : Int) x) 52 1 ((L.length : Int) + 1), ?_, ?_, ?_, ?_⟩
  · unfold Im_put
    rw [h2, if_pos (by omega), wr_ok (by omega) (by omega), pf_ok, ru1 (by decide), h2, wI_ok (by omega) (by omega)]
  · exact fun a q1 q2 => by rw [upm_ne q1, upm_ne q2, h1 a q1 q2]
  · rw [ru3 rfl rfl, List.length_append, List.length_singleton]; omega
  · rw [upm_ne (by decide), upm_eq]
    exact arr_push h3
theorem anI_id {x : Int} (h0 : 0 ≤ x) (h1 : x ≤ 255) : anI x 255 = x := by
  rw [an255m h0 (by omega)]; omega
theorem put_M {m0 m : zM} {L : List Int} {x y : Int} (h : IMw m0 m L) (hl : L.length < 160) (hx : anI x 255 = y) : ∃ m', M_writes x m = some m' ∧ IMw m0 m' (L ++ [y]) := by
  obtain ⟨h1, h2, h3, h4⟩ := h
  refine ⟨upm (upm m 52 (L.length : Int) y) 0 76 ((L.length : Int) + 1), ?_, ?_, ?_, ?_, ?_⟩
  · unfold M_writes
    rw [h3, hx, wr_ok (by omega) (by omega), pf_ok, ru1 (by decide), h3, wI_ok (by omega) (by omega)]
  · exact fun a q1 q2 => by rw [upm_ne q1, upm_ne q2, h1 a q1 q2]
  · exact fun j hj => by rw [ru2 hj, ru1 (by decide), h2 j hj]
  · rw [ru3 rfl rfl, List.length_append, List.length_singleton]; omega
  · rw [upm_ne (by decide), upm_eq]
    exact arr_push h4
def pG (S : zM) (g : Int) : List Int := [S 1 (g * 3 + 0), S 1 (g * 3 + 1), S 1 (g * 3 + 2), S 2 g + 1, S 3 g]
def pT (S : zM) (b : Int) : List Int := [S 4 (b * 3 + 0), S 4 (b * 3 + 1), S 4 (b * 3 + 2)]
def imH (S : zM) : List Int := [S 0 0 / 256, S 0 0 % 256, S 0 1, S 0 2 / 256, S 0 2 % 256]
def imG (S : zM) : Nat → List Int
  | 0 => imH S
  | n + 1 => imG S n ++ pG S (n : Int)
def pP2 (S : zM) (b : Int) : Nat → List Int
  | 0 => pT S b
  | n + 1 => pP2 S b n ++ [S 5 (b * 8 + (n : Int)), S 6 (b * 8 + (n : Int))]
def imB (Z S : zM) : Nat → List Int
  | 0 => imG S (Z 0 1).toNat
  | n + 1 => imB Z S n ++ pP2 S (n : Int) (Z 0 1).toNat
def ckL (L : List Int) : Int := L.foldl (fun c x => (5 * c + x) % 251) 151
theorem imG_len {S : zM} : ∀ n, (imG S n).length = 5 + 5 * n
  | 0 => rfl
  | n + 1 => by
    have := imG_len (S := S) n
    unfold imG pG
    rw [List.length_append, this]
    show 5 + 5 * n + 5 = _
    omega
theorem pP2_len {S : zM} {b : Int} : ∀ n, (pP2 S b n).length = 3 + 2 * n
  | 0 => rfl
  | n + 1 => by
    have := pP2_len (S := S) (b := b) n
    unfold pP2
    rw [List.length_append, this]
    show 3 + 2 * n + 2 = _
    omega
theorem imB_len {Z S : zM} (h : Z 0 1 ≤ 8) : ∀ n, (imB Z S n).length ≤ 45 + 19 * n
  | 0 => by
    unfold imB
    rw [imG_len]; omega
  | n + 1 => by
    have := imB_len (S := S) h n
    unfold imB
    rw [List.length_append, pP2_len]
    omega
theorem ck_b {L : List Int} : 0 ≤ ckL L ∧ ckL L ≤ 250 := by
  unfold ckL
  have : ∀ (L : List Int) (c : Int), 0 ≤ c ∧ c ≤ 250 → 0 ≤ L.foldl (fun c x => (5 * c + x) % 251) c ∧ L.foldl (fun c x => (5 * c + x) % 251) c ≤ 250 := by
    intro L
    induction L with
    | nil => intro c h; exact h
    | cons a L ih => intro c _; exact ih ((5 * c + a) % 251) (by omega)
  exact this L 151 (by decide)
theorem ck_app {L : List Int} {x : Int} : ckL (L ++ [x]) = (5 * ckL L + x) % 251 := by
  unfold ckL
  rw [List.foldl_append]
  rfl
/-- the check, over a row that holds a list of bytes -/
theorem check_C {m : zM} {a n : Nat} {N : Int} (L : List Int) (hL : arr (m a) L) (hN : N = (L.length : Int)) (hn : L.length ≤ n) (hn2 : n < 5000) (hb : ∀ j, j < L.length → 0 ≤ L.getD j 0 ∧ L.getD j 0 ≤ 255) : Im_check a n N m = some (ckL L) := by
  have K : ∀ (d k j : Nat), j + d = L.length → d < k → Im_check_L6 m k a n N (ckL (L.take j)) (j : Int) = some (ckL L) := by
    intro d
    induction d with
    | zero =>
      intro k j hj hk
      obtain ⟨k, rfl⟩ : ∃ q, k = q + 1 := ⟨k - 1, by omega⟩
      show Im_check_B6 _ _ _ _ _ _ _ = _
      unfold Im_check_B6
      rw [if_neg (by omega), List.take_of_length_le (by omega)]
    | succ d ih =>
      intro k j hj hk
      obtain ⟨k, rfl⟩ : ∃ q, k = q + 1 := ⟨k - 1, by omega⟩
      have cb := ck_b (L := L.take j)
      have b := hb j (by omega)
      have i1 := ih k (j + 1) (by omega) (by omega)
      rw [take_s (by omega), ck_app, show ((j + 1 : Nat) : Int) = (j : Int) + 1 from by omega] at i1
      show Im_check_B6 _ _ _ _ _ _ _ = _
      unfold Im_check_B6
      rw [if_pos (by omega), if_pos (by omega), rd_ok (by omega) (by omega), hL j (by omega), lt_ok, wI_ok (x := 5 * ckL (L.take j)) (by omega) (by omega), wI_ok (x := 5 * ckL (L.take j) + L.getD j 0) (by omega) (by omega), rmI_n (by omega) (by omega) (by decide) (by decide), wI_ok (by omega) (by omega)]
      exact i1
  exact K L.length 1000000 0 (by omega) (by omega)
theorem checkM_L {m : zM} (L : List Int) (hL : arr (m 52) L) (hN : m 0 76 = (L.length : Int)) (hn : L.length ≤ 160) (hb : ∀ j, j < L.length → 0 ≤ L.getD j 0 ∧ L.getD j 0 ≤ 255) : M_image_L208 1000000 151 0 m = (M_writes (ckL L) m).bind (fun r5 => some (r5 0 76, r5)) := by
  have K : ∀ (d k j : Nat), j + d = L.length → d < k → M_image_L208 k (ckL (L.take j)) (j : Int) m = (M_writes (ckL L) m).bind (fun r5 => some (r5 0 76, r5)) := by
    intro d
    induction d with
    | zero =>
      intro k j hj hk
      obtain ⟨k, rfl⟩ : ∃ q, k = q + 1 := ⟨k - 1, by omega⟩
      show M_image_B208 _ _ _ _ = _
      unfold M_image_B208
      rw [if_neg (by omega), List.take_of_length_le (by omega)]
    | succ d ih =>
      intro k j hj hk
      obtain ⟨k, rfl⟩ : ∃ q, k = q + 1 := ⟨k - 1, by omega⟩
      have cb := ck_b (L := L.take j)
      have b := hb j (by omega)
      have i1 := ih k (j + 1) (by omega) (by omega)
      rw [take_s (by omega), ck_app, show ((j + 1 : Nat) : Int) = (j : Int) + 1 from by omega] at i1
      show M_image_B208 _ _ _ _ = _
      unfold M_image_B208
      rw [if_pos (by omega), rd_ok (by omega) (by omega), hL j (by omega), lt_ok, wI_ok (x := 5 * ckL (L.take j)) (by omega) (by omega), wI_ok (x := 5 * ckL (L.take j) + L.getD j 0) (by omega) (by omega), rmI_n (by omega) (by omega) (by decide) (by decide), wI_ok (by omega) (by omega)]
      exact i1
  exact K L.length 1000000 0 (by omega) (by omega)
theorem triple_C {m0 m : zM} {L : List Int} {a n : Nat} {i x y w : Int} (h : ICw m0 m L) (hl : L.length + 3 ≤ 160) (a1 : a ≠ 52) (a2 : a ≠ 53) (i0 : 0 ≤ i) (i1 : i + 2 < (n : Int)) (hn : n < 1000) (hx : m0 a (i + 0) = x) (hy : m0 a (i + 1) = y) (hw : m0 a (i + 2) = w) : ∃ m', Im_putTriple a n i m = some m' ∧ ICw m0 m' (L ++ [x, y, w]) := by
  obtain ⟨m1, e1, h1⟩ := put_C (x := x) h (by omega)
  obtain ⟨m2, e2, h2⟩ := put_C (x := y) h1 (by rw [List.length_append, List.length_singleton]; omega)
  obtain ⟨m3, e3, h3⟩ := put_C (x := w) h2 (by rw [List.length_append, List.length_append, List.length_singleton, List.length_singleton]; omega)
  have st : ∀ (k : Nat) (j v : Int) (q q' : zM) (LL : List Int), 0 ≤ j → j < 3 → ICw m0 q LL → m0 a (i + j) = v → Im_put v q = some q' → Im_putTriple_L2 (k + 1) a n i j q = Im_putTriple_L2 k a n i (j + 1) q' := by
    intro k j v q q' LL j0 j1 hq hv hp
    show Im_putTriple_B2 _ _ _ _ _ _ = _
    unfold Im_putTriple_B2
    rw [if_pos j1, wI_ok (by omega) (by omega), rd_ok (by omega) (by omega), hq.1 a a1 a2, hv, hp, Option.bind_some, wI_ok (by omega) (by omega)]
  refine ⟨m3, ?_, ?_⟩
  · show Im_putTriple_L2 (999999 + 1) a n i 0 m = _
    rw [st 999999 0 x m m1 L (by decide) (by decide) h hx e1]
    show Im_putTriple_L2 (999998 + 1) a n i _ m1 = _
    rw [st 999998 (0 + 1) y m1 m2 _ (by decide) (by decide) h1 (by rw [show i + ((0 : Int) + 1) = i + 1 from by omega]; exact hy) e2]
    show Im_putTriple_L2 (999997 + 1) a n i _ m2 = _
    rw [st 999997 (0 + 1 + 1) w m2 m3 _ (by decide) (by decide) h2 (by rw [show i + ((0 : Int) + 1 + 1) = i + 2 from by omega]; exact hw) e3]
    show Im_putTriple_B2 _ _ _ _ _ _ = _
    unfold Im_putTriple_B2
    rw [if_neg (by decide)]
  · rw [List.append_assoc, List.append_assoc] at h3
    exact h3
theorem pair_C {m0 m : zM} {L : List Int} {x : Int} (h : ICw m0 m L) (hl : L.length + 2 ≤ 160) (x0 : 0 ≤ x) (x1 : x < 65536) : ∃ m', Im_putPair x m = some m' ∧ ICw m0 m' (L ++ [x / 256, x % 256]) := by
  obtain ⟨m1, e1, h1⟩ := put_C (x := x / 256) h (by omega)
  obtain ⟨m2, e2, h2⟩ := put_C (x := x % 256) h1 (by rw [List.length_append, List.length_singleton]; omega)
  refine ⟨m2, ?_, ?_⟩
  · unfold Im_putPair
    rw [sr8 x0 (by omega), an255m x0 (by omega), e1, Option.bind_some, e2, Option.bind_some]
  · rw [List.append_assoc] at h2
    exact h2
theorem pair_M {m0 m : zM} {L : List Int} {x : Int} (h : IMw m0 m L) (hl : L.length + 2 ≤ 160) (x0 : 0 ≤ x) (x1 : x < 65536) : ∃ m', M_writesTwo x m = some m' ∧ IMw m0 m' (L ++ [x / 256, x % 256]) := by
  obtain ⟨m1, e1, h1⟩ := put_M (x := x / 256) h (by omega) (anI_id (by omega) (by omega))
  obtain ⟨m2, e2, h2⟩ := put_M (x := x) h1 (by rw [List.length_append, List.length_singleton]; omega) (an255m x0 (by omega))
  refine ⟨m2, ?_, ?_⟩
  · unfold M_writesTwo
    rw [sr8 x0 (by omega), e1, Option.bind_some, e2, Option.bind_some]
  · rw [List.append_assoc] at h2
    exact h2
theorem wp_imageC {Z S mM m : zM} {z : Nat} {bk : Int} (h : GG Z S mM bk 0) (hz : z = 55 ∨ z = 72) (hZ : zv m z = Z) (hS : sv m 8 = S) (hb : ∀ j, j < (imB Z S (Z 0 0).toNat).length → 0 ≤ (imB Z S (Z 0 0).toNat).getD j 0 ∧ (imB Z S (Z 0 0).toNat).getD j 0 ≤ 255) : wp (Im_write z 8 m) (fun r => ICw m r (imB Z S (Z 0 0).toNat ++ [ckL (imB Z S (Z 0 0).toNat)])) := by
  have n1 := h.nb
  have n2 := h.ng
  have dd := h.dy
  have hh := h.hr
  have ff := h.2.1.2.1
  have zc : ∀ {r : zM} {L}, ICw m r L → (∀ j, r z j = Z 0 j) := fun hr j => by rw [hr.1 z (by omega) (by omega), rZ0 hZ]
  have c8 : ∀ {r : zM} {L}, ICw m r L → ∀ k, k ≤ 7 → r (8 + k) = m (8 + k) := fun hr k hk => hr.1 _ (by omega) (by omega)
  unfold Im_write
  rw [pf_ok]
  have h0 : ICw m (upm m 52 1 0) [] := ⟨fun a q1 q2 => upm_ne q1, ru3 rfl rfl, fun j hj => absurd hj (by show ¬ j < 0; omega)⟩
  obtain ⟨m1, e1, h1⟩ := pair_C (x := S 0 0) h0 (by show 0 + 2 ≤ 160; omega) dd.1 (by omega)
  rw [show upm m 52 1 0 8 0 = S 0 0 from by rw [ru1 (by decide)]; exact rS00 hS, e1, Option.bind_some]
  obtain ⟨m2, e2, h2⟩ := put_C (x := S 0 1) h1 (by show 2 < 160; omega)
  rw [show m1 8 1 = S 0 1 from by rw [h1.1 8 (by decide) (by decide)]; exact rS01 hS, e2, Option.bind_some]
  obtain ⟨m3, e3, h3⟩ := pair_C (x := S 0 2) h2 (by show 3 + 2 ≤ 160; omega) ff.2.1 (by omega)
  rw [show m2 8 2 = S 0 2 from by rw [h2.1 8 (by decide) (by decide)]; exact rS02 hS, e3, Option.bind_some]
  have h3' : ICw m m3 (imG S 0) := h3
  refine wp_for (fun n i (s : zM) => Im_write_L31 (fun o1_14 o2_14 m15 => Im_write_L80 1000000 o1_14 o2_14 0 m15) n z 8 i s) (fun i s => ICw m s (imG S i.toNat)) _ 0 (Z 0 1) ?_ ?_ 1000000 0 m3 (by omega) (by omega) (by omega) h3'
  · intro n s hI
    show wp (Im_write_B31 _ _ _ _ _ _) _
    unfold Im_write_B31
    rw [zc hI, if_neg (by omega)]
    refine wp_for (fun n i (s : zM) => Im_write_L80 n z 8 i s) (fun i s => ICw m s (imB Z S i.toNat)) _ 0 (Z 0 0) ?_ ?_ 1000000 0 s (by omega) (by omega) (by omega) hI
    · intro n s hI
      have ll := imB_len (S := S) n2.2 (Z 0 0).toNat
      show wp (Im_write_B80 _ _ _ _ _) _
      unfold Im_write_B80
      rw [zc hI, if_neg (by omega), hI.2.1, check_C _ hI.2.2 rfl (by omega) (by decide) hb, Option.bind_some]
      obtain ⟨m4, e4, h4⟩ := put_C (x := ckL (imB Z S (Z 0 0).toNat)) hI (by omega)
      rw [e4, Option.bind_some]
      exact wp_some h4
    · intro n i s q0 q1 hI hr
      have ll := imB_len (S := S) n2.2 i.toNat
      have ei : ((i.toNat : Nat) : Int) = i := by omega
      have en : (i + 1).toNat = i.toNat + 1 := by omega
      show wp (Im_write_B80 _ _ _ _ _) _
      unfold Im_write_B80
      obtain ⟨m4, e4, h4⟩ := triple_C (a := 12) (n := 18) (i := i * 3) (x := S 4 (i * 3 + 0)) (y := S 4 (i * 3 + 1)) (w := S 4 (i * 3 + 2)) hI (by omega) (by decide) (by decide) (by omega) (by omega) (by decide) (rS4 (o := 8) hS (by omega) (by omega)) (rS4 (o := 8) hS (by omega) (by omega)) (rS4 (o := 8) hS (by omega) (by omega))
      rw [zc hI, if_pos q1, wI_ok (x := i * 3) (by omega) (by omega), e4, Option.bind_some]
      refine wp_for (fun k j (s : zM) => Im_write_L102 (fun o1_6 o2_6 x3_6 m7 => Im_write_L80 n o1_6 o2_6 (wI (x3_6 + 1)) m7) k z 8 i j s) (fun j s => ICw m s (imB Z S i.toNat ++ pP2 S i j.toNat)) _ 0 (Z 0 1) ?_ ?_ 1000000 0 m4 (by omega) (by omega) (by omega) h4
      · intro k s hI
        show wp (Im_write_B102 _ _ _ _ _ _ _) _
        unfold Im_write_B102
        rw [zc hI, if_neg (by omega)]
        show wp (Im_write_L80 n z 8 (wI (i + 1)) s) _
        rw [wI_ok (x := i + 1) (by omega) (by omega)]
        refine hr s ?_
        rw [en]
        unfold imB
        rw [ei]
        exact hI
      · intro k j s p0 p1 hI hr2
        have lp := pP2_len (S := S) (b := i) j.toNat
        have ej : ((j.toNat : Nat) : Int) = j := by omega
        have en2 : (j + 1).toNat = j.toNat + 1 := by omega
        have la : (imB Z S i.toNat ++ pP2 S i j.toNat).length ≤ 157 := by rw [List.length_append]; omega
        obtain ⟨m5, e5, h5⟩ := put_C (x := S 5 (i * 8 + j)) hI (by omega)
        obtain ⟨m6, e6, h6⟩ := put_C (x := S 6 (i * 8 + j)) h5 (by rw [List.length_append, List.length_singleton]; omega)
        show wp (Im_write_B102 _ _ _ _ _ _ _) _
        unfold Im_write_B102
        rw [zc hI, if_pos p1, wI_ok (x := i * 8) (by omega) (by omega), wI_ok (x := i * 8 + j) (by omega) (by omega), rd_ok (by omega) (by omega), show s (8 + 5) (i * 8 + j) = S 5 (i * 8 + j) from by rw [c8 hI 5 (by decide)]; exact rS5 (o := 8) hS (by omega) (by omega), e5, Option.bind_some, rd_ok (by omega) (by omega), show m5 (8 + 6) (i * 8 + j) = S 6 (i * 8 + j) from by rw [c8 h5 6 (by decide)]; exact rS6 (o := 8) hS (by omega) (by omega), e6, Option.bind_some, wI_ok (x := j + 1) (by omega) (by omega)]
        refine hr2 m6 ?_
        rw [en2]
        unfold pP2
        rw [ej]
        rw [List.append_assoc, List.append_assoc] at h6
        exact h6
  · intro n i s q0 q1 hI hr
    have ll := imG_len (S := S) i.toNat
    have ei : ((i.toNat : Nat) : Int) = i := by omega
    have en : (i + 1).toNat = i.toNat + 1 := by omega
    have kb := h.kb q0 q1
    show wp (Im_write_B31 _ _ _ _ _ _) _
    unfold Im_write_B31
    obtain ⟨m4, e4, h4⟩ := triple_C (a := 9) (n := 24) (i := i * 3) (x := S 1 (i * 3 + 0)) (y := S 1 (i * 3 + 1)) (w := S 1 (i * 3 + 2)) hI (by omega) (by decide) (by decide) (by omega) (by omega) (by decide) (rS1 (o := 8) hS (by omega) (by omega)) (rS1 (o := 8) hS (by omega) (by omega)) (rS1 (o := 8) hS (by omega) (by omega))
    have l4 : (imG S i.toNat ++ [S 1 (i * 3 + 0), S 1 (i * 3 + 1), S 1 (i * 3 + 2)]).length ≤ 150 := by
      rw [List.length_append, ll]
      show 5 + 5 * i.toNat + 3 ≤ 150
      omega
    obtain ⟨m5, e5, h5⟩ := put_C (x := S 2 i + 1) h4 (by omega)
    obtain ⟨m6, e6, h6⟩ := put_C (x := S 3 i) h5 (by rw [List.length_append, List.length_singleton]; omega)
    rw [zc hI, if_pos q1, wI_ok (x := i * 3) (by omega) (by omega), e4, Option.bind_some, rd_ok (by omega) (by omega), show m4 (8 + 2) i = S 2 i from by rw [c8 h4 2 (by decide)]; exact rS2 (o := 8) hS (by omega) (by omega), wI_ok (x := S 2 i + 1) (by omega) (by omega), e5, Option.bind_some, rd_ok (by omega) (by omega), show m5 (8 + 3) i = S 3 i from by rw [c8 h5 3 (by decide)]; exact rS3 (o := 8) hS (by omega) (by omega), e6, Option.bind_some, wI_ok (x := i + 1) (by omega) (by omega)]
    refine hr m6 ?_
    rw [en]
    unfold imG pG
    rw [ei]
    rw [List.append_assoc, List.append_assoc] at h6
    exact h6
