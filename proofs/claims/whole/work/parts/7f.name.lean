/-! the parser: frames, names -/
theorem wp_jb {α β γ δ : Type} {p : Option α} {q : Option β} {f : α → Option γ} {g : β → Option δ} {R : α → β → Prop} {Q : γ → δ → Prop} (h : wp p (fun a => wp q (fun b => R a b))) (k : ∀ a b, R a b → wp (f a) (fun x => wp (g b) (fun y => Q x y))) : wp (p.bind f) (fun x => wp (q.bind g) (fun y => Q x y)) := by
  obtain ⟨a, rfl, b, rfl, r⟩ := h
  exact k a b r
def bay (a : Nat) : Int := if a = 2 ∨ a = 7 then 1 else if a = 3 ∨ a = 4 ∨ a = 5 ∨ a = 17 then 6 else if a = 6 then 18 else if a = 8 then 24 else if a = 9 ∨ a = 10 ∨ a = 11 ∨ a = 18 then 8 else if a = 12 then 5 else if a = 13 ∨ a = 14 then 2 else 1600
/-- the model's frame: of the zoo that is read into, of the parser's own fields -/
def frB (b : Int) (m m' : zM) : Prop := (∀ a, 26 ≤ a → m' a = m a) ∧ m' 1 = m 1 ∧ (∀ j, (j ≤ 2 ∨ j = 10 ∨ j = 11 ∨ (13 ≤ j ∧ j ≤ 30) ∨ j = 32 ∨ 44 ≤ j) → m' 0 j = m 0 j) ∧ ∀ a, 2 ≤ a → a ≤ 18 → ∀ i, (i < bay a * b ∨ bay a * b + bay a ≤ i) → m' a i = m a i
theorem frB.refl {b : Int} {m : zM} : frB b m m := ⟨fun _ _ => rfl, rfl, fun _ _ => rfl, fun _ _ _ _ _ => rfl⟩
theorem frB.trans {b : Int} {m m' m2 : zM} (h : frB b m m') (h2 : frB b m' m2) : frB b m m2 := ⟨fun a q => by rw [h2.1 a q, h.1 a q], by rw [h2.2.1, h.2.1], fun j q => by rw [h2.2.2.1 j q, h.2.2.1 j q], fun a q1 q2 i q3 => by rw [h2.2.2.2 a q1 q2 i q3, h.2.2.2 a q1 q2 i q3]⟩
theorem frG.B {b : Int} {m m' : zM} (h : frG m m') : frB b m m' := ⟨fun a q => h.cell (by omega), h.cell (by decide), fun j q => h.2 j (by omega) (by omega) (by omega) (by omega) (by omega) (by omega) (by omega) (by omega), fun a q1 q2 i _ => by rw [h.cell (by omega)]⟩
theorem frB.put {b : Int} {m m' : zM} {a : Nat} {i x : Int} (h : frB b m m') (a1 : 2 ≤ a) (a2 : a ≤ 18) (i1 : bay a * b ≤ i) (i2 : i < bay a * b + bay a) : frB b m (upm m' a i x) := by
  refine ⟨fun c q => by rw [upm_ne (by omega)]; exact h.1 c q, by rw [upm_ne (by omega)]; exact h.2.1, fun j q => by rw [ru1 (by omega)]; exact h.2.2.1 j q, fun c q1 q2 j q3 => ?_⟩
  rw [← h.2.2.2 c q1 q2 j q3]
  by_cases e : c = a
  · subst e
    exact ru2 (by omega)
  · exact ru1 e
theorem frB.put0 {b : Int} {m m' : zM} {j x : Int} (h : frB b m m') (hj : (3 ≤ j ∧ j ≤ 9) ∨ j = 12 ∨ j = 31 ∨ (33 ≤ j ∧ j ≤ 43)) : frB b m (upm m' 0 j x) := ⟨fun c q => by rw [upm_ne (by omega)]; exact h.1 c q, by rw [upm_ne (by decide)]; exact h.2.1, fun k q => by rw [ru2 (by omega)]; exact h.2.2.1 k q, fun c q1 q2 i q3 => by rw [ru1 (by omega)]; exact h.2.2.2 c q1 q2 i q3⟩
theorem frB.putX {b : Int} {m m' : zM} {a : Nat} {i x : Int} (h : frB b m m') (a1 : 19 ≤ a) (a2 : a ≤ 25) : frB b m (upm m' a i x) := ⟨fun c q => by rw [upm_ne (by omega)]; exact h.1 c q, by rw [upm_ne (by omega)]; exact h.2.1, fun k q => by rw [ru1 (by omega)]; exact h.2.2.1 k q, fun c q1 q2 i q3 => by rw [ru1 (by omega)]; exact h.2.2.2 c q1 q2 i q3⟩
/-- after a fault -/
def FB (b : Int) (m r : zM) : Prop := r 0 8 = m 0 8 ∧ r 0 9 = m 0 9 ∧ frB b m r
theorem FB.refl {b : Int} {m : zM} : FB b m m := ⟨rfl, rfl, frB.refl⟩
theorem FB.trans {b : Int} {m m' r : zM} (h : FB b m m') (h2 : FB b m' r) : FB b m r := ⟨by rw [h2.1, h.1], by rw [h2.2.1, h.2.1], h.2.2.trans h2.2.2⟩
theorem FB.put {b : Int} {m r : zM} {a : Nat} {i x : Int} (h : FB b m r) (a1 : 2 ≤ a) (a2 : a ≤ 18) (i1 : bay a * b ≤ i) (i2 : i < bay a * b + bay a) : FB b m (upm r a i x) := ⟨by rw [ru1 (by omega)]; exact h.1, by rw [ru1 (by omega)]; exact h.2.1, h.2.2.put a1 a2 i1 i2⟩
theorem FB.putX {b : Int} {m r : zM} {a : Nat} {i x : Int} (h : FB b m r) (a1 : 19 ≤ a) (a2 : a ≤ 25) : FB b m (upm r a i x) := ⟨by rw [ru1 (by omega)]; exact h.1, by rw [ru1 (by omega)]; exact h.2.1, h.2.2.putX a1 a2⟩
/-- the class's frame: the zoo that is read into, the parser -/
def zcl (zd : Nat) : List Nat := [1, zd, zd + 1, zd + 2, zd + 3, zd + 4, zd + 5, zd + 6, zd + 7, zd + 8, zd + 9, zd + 10, zd + 11, zd + 12, zd + 14, zd + 15]
def frC (zd : Nat) (m m' : zM) : Prop := eqO (zcl zd) m m' ∧ m' 1 3 = m 1 3
theorem frC.refl {zd : Nat} {m : zM} : frC zd m m := ⟨eqO.refl, rfl⟩
theorem frC.trans {zd : Nat} {m m' m2 : zM} (h : frC zd m m') (h2 : frC zd m' m2) : frC zd m m2 := ⟨h.1.trans h2.1, by rw [h2.2, h.2]⟩
theorem frK.C {zd : Nat} {m m' : zM} (h : frK m m') : frC zd m m' := ⟨h.1.mono (by unfold zcl; simp), h.2.1⟩
theorem frC.put {zd a : Nat} {m m' : zM} {i x : Int} (h : frC zd m m') (ha : a ∈ zcl zd) (h1 : a ≠ 1) : frC zd m (upm m' a i x) := ⟨h.1.put ha, by rw [ru1 (fun e => h1 e.symm)]; exact h.2⟩
theorem frC.put1 {zd : Nat} {m m' : zM} {i x : Int} (h : frC zd m m') (hi : i ≠ 3) : frC zd m (upm m' 1 i x) := ⟨h.1.put (by unfold zcl; simp), by rw [ru2 (fun e => hi e.symm)]; exact h.2⟩
theorem zv_K {m m' : zM} {zd : Nat} (hz : zd = 55 ∨ zd = 72) (h : frK m m') : zv m' zd = zv m zd := zv_eq fun q _ _ => h.cell (by omega)
theorem ZM_G {Z m m' : zM} {b : Int} (h : ZM Z m b) (g : frG m m') : ZM Z m' b := h.same (fun a q1 q2 => g.cell (by omega))
theorem beastCalled_J {mC mM Z : zM} {zd : Nat} {b x w : Int} (hZ : zv mC zd = Z) (z : ZM Z mM b) (hb : mM 0 32 = b) (b1 : b = 0 ∨ b = 1) (h : nmR x w) : ∃ v : Int, Zo_beastCalled zd x mC = some v ∧ M_named 0 w mM = some v ∧ (v = -1 ∨ (0 ≤ v ∧ v < Z 0 0)) := by
  have n0 := z.1
  have nm : ∀ i, 0 ≤ i → i < Z 0 0 → nmR (Z 1 i) (mM 17 (6 * b + i)) := z.2.2.2.2.2.2.2.2.2.2.1
  have K : ∀ (d n k : Nat) (j : Int), j + (d : Int) = Z 0 0 → 0 ≤ j → d < n → d < k → ∃ v : Int, Zo_beastCalled_L2 mC n zd x j = some v ∧ M_named_L3 mM k 0 w j = some v ∧ (v = -1 ∨ (0 ≤ v ∧ v < Z 0 0)) := by
    intro d
    induction d with
    | zero =>
      intro n k j hj j0 hn hk
      obtain ⟨n, rfl⟩ : ∃ q, n = q + 1 := ⟨n - 1, by omega⟩
      obtain ⟨k, rfl⟩ : ∃ q, k = q + 1 := ⟨k - 1, by omega⟩
      refine ⟨-1, ?_, ?_, Or.inl rfl⟩
      · show Zo_beastCalled_B2 _ _ _ _ _ = _
        unfold Zo_beastCalled_B2
        rw [rZ0 hZ, if_neg (by omega)]
      · show M_named_B3 _ _ _ _ _ = _
        unfold M_named_B3 M_manyOf
        rw [hb, if_pos rfl, rd_ok (by omega) (by omega), Option.bind_some, n0.1, if_neg (by omega)]
    | succ d ih =>
      intro n k j hj j0 hn hk
      obtain ⟨n, rfl⟩ : ∃ q, n = q + 1 := ⟨n - 1, by omega⟩
      obtain ⟨k, rfl⟩ : ∃ q, k = q + 1 := ⟨k - 1, by omega⟩
      have q := nmR.iff (nm j j0 (by omega)) h
      by_cases c : Z 1 j = x
      · refine ⟨j, ?_, ?_, Or.inr ⟨j0, by omega⟩⟩
        · show Zo_beastCalled_B2 _ _ _ _ _ = _
          unfold Zo_beastCalled_B2
          rw [rZ0 hZ, if_pos (by omega), rd_ok (by omega) (by omega), rZ hZ 1 (by decide), if_pos c]
        · show M_named_B3 _ _ _ _ _ = _
          unfold M_named_B3 M_manyOf M_nameOf
          rw [hb, if_pos rfl, rd_ok (by omega) (by omega), Option.bind_some, n0.1, if_pos (by omega), if_pos rfl, wI_ok (x := 6 * b) (by omega) (by omega), wI_ok (x := 6 * b + j) (by omega) (by omega), rd_ok (by omega) (by omega), Option.bind_some, if_pos (q.mp c)]
      · obtain ⟨v, v1, v2, v3⟩ := ih n k (j + 1) (by omega) (by omega) (by omega) (by omega)
        refine ⟨v, ?_, ?_, v3⟩
        · show Zo_beastCalled_B2 _ _ _ _ _ = _
          unfold Zo_beastCalled_B2
          rw [rZ0 hZ, if_pos (by omega), rd_ok (by omega) (by omega), rZ hZ 1 (by decide), if_neg c, wI_ok (by omega) (by omega)]
          exact v1
        · show M_named_B3 _ _ _ _ _ = _
          unfold M_named_B3 M_manyOf M_nameOf
          rw [hb, if_pos rfl, rd_ok (by omega) (by omega), Option.bind_some, n0.1, if_pos (by omega), if_pos rfl, wI_ok (x := 6 * b) (by omega) (by omega), wI_ok (x := 6 * b + j) (by omega) (by omega), rd_ok (by omega) (by omega), Option.bind_some, if_neg (fun e => c (q.mpr e)), wI_ok (by omega) (by omega)]
          exact v2
  exact K (Z 0 0).toNat 1000000 1000000 0 (by omega) (by omega) (by omega) (by omega)
theorem guestCalled_J {mC mM Z : zM} {zd : Nat} {b x w : Int} (hZ : zv mC zd = Z) (z : ZM Z mM b) (hb : mM 0 32 = b) (b1 : b = 0 ∨ b = 1) (h : nmR x w) : ∃ v : Int, Zo_guestCalled zd x mC = some v ∧ M_named 1 w mM = some v ∧ (v = -1 ∨ (0 ≤ v ∧ v < Z 0 1)) := by
  have n0 := z.2.1
  have nm : ∀ i, 0 ≤ i → i < Z 0 1 → nmR (Z 6 i) (mM 18 (8 * b + i)) := z.2.2.2.2.2.2.2.2.2.2.2.1
  have K : ∀ (d n k : Nat) (j : Int), j + (d : Int) = Z 0 1 → 0 ≤ j → d < n → d < k → ∃ v : Int, Zo_guestCalled_L2 mC n zd x j = some v ∧ M_named_L3 mM k 1 w j = some v ∧ (v = -1 ∨ (0 ≤ v ∧ v < Z 0 1)) := by
    intro d
    induction d with
    | zero =>
      intro n k j hj j0 hn hk
      obtain ⟨n, rfl⟩ : ∃ q, n = q + 1 := ⟨n - 1, by omega⟩
      obtain ⟨k, rfl⟩ : ∃ q, k = q + 1 := ⟨k - 1, by omega⟩
      refine ⟨-1, ?_, ?_, Or.inl rfl⟩
      · show Zo_guestCalled_B2 _ _ _ _ _ = _
        unfold Zo_guestCalled_B2
        rw [rZ0 hZ, if_neg (by omega)]
      · show M_named_B3 _ _ _ _ _ = _
        unfold M_named_B3 M_manyOf
        rw [hb, if_neg (show ¬ (1 : Int) = 0 by decide), rd_ok (by omega) (by omega), Option.bind_some, n0.1, if_neg (by omega)]
    | succ d ih =>
      intro n k j hj j0 hn hk
      obtain ⟨n, rfl⟩ : ∃ q, n = q + 1 := ⟨n - 1, by omega⟩
      obtain ⟨k, rfl⟩ : ∃ q, k = q + 1 := ⟨k - 1, by omega⟩
      have q := nmR.iff (nm j j0 (by omega)) h
      by_cases c : Z 6 j = x
      · refine ⟨j, ?_, ?_, Or.inr ⟨j0, by omega⟩⟩
        · show Zo_guestCalled_B2 _ _ _ _ _ = _
          unfold Zo_guestCalled_B2
          rw [rZ0 hZ, if_pos (by omega), rd_ok (by omega) (by omega), rZ hZ 6 (by decide), if_pos c]
        · show M_named_B3 _ _ _ _ _ = _
          unfold M_named_B3 M_manyOf M_nameOf
          rw [hb, if_neg (show ¬ (1 : Int) = 0 by decide), rd_ok (by omega) (by omega), Option.bind_some, n0.1, if_pos (by omega), if_neg (show ¬ (1 : Int) = 0 by decide), wI_ok (x := 8 * b) (by omega) (by omega), wI_ok (x := 8 * b + j) (by omega) (by omega), rd_ok (by omega) (by omega), Option.bind_some, if_pos (q.mp c)]
      · obtain ⟨v, v1, v2, v3⟩ := ih n k (j + 1) (by omega) (by omega) (by omega) (by omega)
        refine ⟨v, ?_, ?_, v3⟩
        · show Zo_guestCalled_B2 _ _ _ _ _ = _
          unfold Zo_guestCalled_B2
          rw [rZ0 hZ, if_pos (by omega), rd_ok (by omega) (by omega), rZ hZ 6 (by decide), if_neg c, wI_ok (by omega) (by omega)]
          exact v1
        · show M_named_B3 _ _ _ _ _ = _
          unfold M_named_B3 M_manyOf M_nameOf
          rw [hb, if_neg (show ¬ (1 : Int) = 0 by decide), rd_ok (by omega) (by omega), Option.bind_some, n0.1, if_pos (by omega), if_neg (show ¬ (1 : Int) = 0 by decide), wI_ok (x := 8 * b) (by omega) (by omega), wI_ok (x := 8 * b + j) (by omega) (by omega), rd_ok (by omega) (by omega), Option.bind_some, if_neg (fun e => c (q.mpr e)), wI_ok (by omega) (by omega)]
          exact v2
  exact K (Z 0 1).toNat 1000000 1000000 0 (by omega) (by omega) (by omega) (by omega)
/-- a word that is a name: its number, its bytes -/
theorem PM.name {c : zX} {i : Int} {m : zM} (h : PM c i m) (hk : xm c 4 i = 258) : m 0 3 = 1 ∧ nmR (xm c 6 i) (m 0 7) ∧ M_isOwn (m 0 7) = some 0 := by
  rcases h.2.1.2 with ⟨w, _⟩ | ⟨w, _⟩ | ⟨_, w, _⟩ | ⟨w, _⟩ | ⟨w3, _, w4, w⟩
  · omega
  · omega
  · omega
  · omega
  · rcases w with ⟨k, _, k2, _⟩ | ⟨_, k2⟩
    · omega
    · exact ⟨w3, w4, isOwn_0 (fun k hk e => k2 k hk ((w4.iff (own_R hk)).mpr e.symm).symm)⟩
theorem PM.noname {c : zX} {i : Int} {m : zM} (h : PM c i m) (hk : xm c 4 i ≠ 258) (h7 : xm c 4 i ≠ 257) : m 0 3 ≠ 1 ∨ M_isOwn (m 0 7) = some 1 := by
  rcases h.2.1.2 with ⟨w, w3, _⟩ | ⟨w, _⟩ | ⟨_, w, w3, _⟩ | ⟨w, w3, _⟩ | ⟨w3, _, w4, w⟩
  · exact Or.inl (by omega)
  · exact absurd w h7
  · exact Or.inl (by omega)
  · exact Or.inl (by omega)
  · rcases w with ⟨k, k1, k2, k3⟩ | ⟨w, _⟩
    · refine Or.inr ?_
      rw [(w4.iff (own_R k1)).mp k3.symm]
      exact isOwn_1 k k1
    · exact absurd w hk
/-- a name to be given -/
def JF (c : zX) (i : Int) (mC mM : zM) (a b : Int × zM) : Prop := ((a.1 = 1 ∧ PC c i a.2 ∧ PM c i b.2 ∧ nmR (a.2 1 8) b.1) ∨ (a.1 = 0 ∧ FE a.2 b.2)) ∧ frK mC a.2 ∧ frG mM b.2
theorem fresh_1 {m : zM} (h : 0 < m 0 8) : M_fresh m = some (0, m) := by
  unfold M_fresh
  rw [lex_1 h, Option.bind_some, if_pos h]
theorem fresh_b41F {m : zM} (h : 0 < m 0 8) : M_fresh_b41 m = some (m 0 7, m) := by
  unfold M_fresh_b41
  show M_fresh_B43 _ _ _ _ = _
  unfold M_fresh_B43
  rw [if_neg (by decide), if_neg (by omega)]
  show M_fresh_b83 m = _
  unfold M_fresh_b83
  rw [if_neg (by omega)]
theorem fresh_L1 {m : zM} {n : Nat} (h : 0 < m 0 8) : M_fresh_L43 (fun m2 => M_fresh_b83 m2) (n + 1) 1 m = some (m 0 7, m) := by
  show M_fresh_B43 _ _ _ _ = _
  unfold M_fresh_B43
  rw [if_neg (by decide), if_neg (by omega)]
  show M_fresh_b83 m = _
  unfold M_fresh_b83
  rw [if_neg (by omega)]
theorem fresh_L2 {m : zM} {n : Nat} : M_fresh_L43 (fun m2 => M_fresh_b83 m2) (n + 1) 2 m = M_fresh_b83 m := by
  show M_fresh_B43 _ _ _ _ = _
  unfold M_fresh_B43
  rw [if_pos (by decide)]
theorem new_J {c : zX} {i b : Int} {zd : Nat} {mC mM : zM} (hL : LX c) (h : PC c i mC) (hM : PM c i mM) (hz : zd = 55 ∨ zd = 72) (h3 : mC 1 3 = (zd : Int) + 1) (z : ZM (zv mC zd) mM b) (hb : mM 0 32 = b) (b1 : b = 0 ∨ b = 1) : wp (Pa_newName mC) (fun a => wp (M_fresh mM) (fun b => JF c (i + 1) mC mM a b)) := by
  have bi := hM.i0 hL
  unfold Pa_newName M_fresh
  rw [kind_ok hL h hM, Option.bind_some]
  by_cases c7 : xm c 4 i = 257
  · rw [if_neg (by omega), fail_ok hL h hM, Option.bind_some, lex_bad hM c7, Option.bind_some, if_pos (by rw [fmM_8]; decide)]
    exact wp_some (wp_some ⟨Or.inr ⟨rfl, FE_fm (by decide)⟩, fmC_K, fmM_G⟩)
  · rw [lex_ok hM c7, Option.bind_some, if_neg (show ¬ 0 < mM 0 8 by rw [hM.2.2.2.1]; decide)]
    have p1 : plc c 1 i = xm c 5 i := if_neg (fun x => c7 x.2)
    have p2 : plc c 2 i = xm c 5 i := if_neg (fun x => absurd x.1 (by decide))
    by_cases ck : xm c 4 i = 258
    · obtain ⟨s1, s2, s3⟩ := hM.name ck
      rw [if_pos ck, h.2, rd_ok bi.1 bi.2.1, pf_ok, h.1.2.2.2.1, ru2 (by decide), ru3 rfl rfl, if_pos s1, s3, Option.bind_some, if_pos rfl]
      have hK : PC c i (upm mC 1 8 (xm c 6 i)) := h.keep (frK.refl.put (by simp)) (by rw [ru2 (by decide)]; exact h.2)
      have fK : frK mC (upm mC 1 8 (xm c 6 i)) := frK.refl.put (by simp)
      have eZ : zv (upm mC 1 8 (xm c 6 i)) zd = zv mC zd := zv_K hz fK
      obtain ⟨v, v1, v2, v3⟩ := beastCalled_J (x := xm c 6 i) (w := mM 0 7) eZ z hb b1 s2
      obtain ⟨u, u1, u2, u3⟩ := guestCalled_J (x := xm c 6 i) (w := mM 0 7) eZ z hb b1 s2
      rw [mro_ok (z := zd) h3 (kdz hz), v1, Option.bind_some]
      unfold M_fresh_b41
      show wp _ (fun a => wp (M_fresh_B43 _ (M_fresh_L43 (fun m2 => M_fresh_b83 m2) 999999) 0 mM) _)
      unfold M_fresh_B43
      rw [if_neg (show ¬ (1 : Int) < 0 by decide), if_pos hM.2.2.2.1, v2, Option.bind_some, wI_ok (x := 0 + 1) (by decide) (by decide)]
      by_cases cv : v = -1
      · rw [if_pos cv, if_pos cv, mro_ok (z := zd) h3 (kdz hz), u1, Option.bind_some]
        show wp _ (fun a => wp (M_fresh_B43 _ (M_fresh_L43 (fun m2 => M_fresh_b83 m2) 999998) 1 mM) _)
        unfold M_fresh_B43
        rw [if_neg (show ¬ (1 : Int) < 1 by decide), if_pos hM.2.2.2.1, u2, Option.bind_some, wI_ok (x := 1 + 1) (by decide) (by decide)]
        by_cases cu : u = -1
        · rw [if_pos cu, if_pos cu, pf_ok, hK.2, wI_ok (x := i + 1) (by omega) (by omega)]
          show wp _ (fun a => wp (M_fresh_L43 (fun m2 => M_fresh_b83 m2) (999997 + 1) 2 mM) _)
          rw [fresh_L2]
          unfold M_fresh_b83
          rw [if_pos hM.2.2.2.1]
          refine wp_some (wp_bm (hM.step hL (hM.lt hL (by omega) c7)) (fun b ⟨b1, b2⟩ => wp_some ?_))
          refine ⟨Or.inl ⟨rfl, hK.keep (frK.refl.put (by simp)) (ru3 rfl rfl), b1, ?_⟩, fK.put (by simp), b2.G⟩
          show nmR (upm (upm mC 1 8 (xm c 6 i)) 1 7 (i + 1) 1 8) (mM 0 7)
          rw [ru2 (by decide), ru3 rfl rfl]
          exact s2
        · rw [if_neg cu, if_neg cu, fail_ok hL hK hM, Option.bind_some, blame_0 hM.2.2.2.1, Option.bind_some, hM.at, ← p2]
          show wp _ (fun a => wp (M_fresh_L43 (fun m2 => M_fresh_b83 m2) (999997 + 1) 2 _) _)
          rw [fresh_L2]
          unfold M_fresh_b83
          rw [if_neg (by rw [fmM_8]; decide)]
          exact wp_some (wp_some ⟨Or.inr ⟨rfl, FE_fm (by decide)⟩, fK.trans fmC_K, fmM_G⟩)
      · rw [if_neg cv, if_neg cv, fail_ok hL hK hM, Option.bind_some, blame_0 hM.2.2.2.1, Option.bind_some, hM.at, ← p2]
        show wp _ (fun a => wp (M_fresh_L43 (fun m2 => M_fresh_b83 m2) (999998 + 1) 1 _) _)
        rw [fresh_L1 (by rw [fmM_8]; decide)]
        exact wp_some (wp_some ⟨Or.inr ⟨rfl, FE_fm (by decide)⟩, fK.trans fmC_K, fmM_G⟩)
    · rw [if_neg ck, fail_ok hL h hM, Option.bind_some]
      have bad : wp (some ((0 : Int), fmC mC 1 (plc c 1 i))) (fun a => wp (M_fresh_b32 mM) (fun b => JF c (i + 1) mC mM a b)) := by
        unfold M_fresh_b32
        rw [blame_0 hM.2.2.2.1, Option.bind_some, fresh_b41F (by rw [fmM_8]; decide), hM.at, p1]
        exact wp_some (wp_some ⟨Or.inr ⟨rfl, FE_fm (by decide)⟩, fmC_K, fmM_G⟩)
      rcases hM.noname ck c7 with s | s
      · rw [if_neg s]
        exact bad
      · by_cases s3 : mM 0 3 = 1
        · rw [if_pos s3, s, Option.bind_some, if_neg (by decide)]
          exact bad
        · rw [if_neg s3]
          exact bad
/-- a name that is asked for, but not one of some -/
def JA (c : zX) (i n but : Int) (mC mM : zM) (a b : Int × zM) : Prop := ((a.1 = 1 ∧ PC c (i + 1) a.2 ∧ (0 ≤ a.2 1 8 ∧ a.2 1 8 < n) ∧ ((PM c (i + 1) b.2 ∧ b.1 = a.2 1 8 ∧ anI (srI but (a.2 1 8)) 1 = 0) ∨ (anI (srI but (a.2 1 8)) 1 = 1 ∧ b.2 0 8 = 3 ∧ b.2 0 9 = xm c 5 i ∧ b.1 = 0))) ∨ (a.1 = 0 ∧ FE a.2 b.2 ∧ b.1 = 0)) ∧ frK mC a.2 ∧ frG mM b.2
theorem asked_1 {m : zM} {k but : Int} (h : 0 < m 0 8) : M_askedBut k but m = some (0, m) := by
  unfold M_askedBut
  rw [lex_1 h, Option.bind_some, if_pos h]
theorem asked_b61F {m : zM} {but s : Int} (h : 0 < m 0 8) : M_askedBut_b61 but s m = some (0, m) := by
  unfold M_askedBut_b61
  rw [if_neg (by omega)]
  unfold M_askedBut_b91
  rw [if_neg (by omega)]
  unfold M_askedBut_b102
  rw [if_pos h]
theorem asked_b82F {m : zM} {s : Int} (h : m 0 8 = 0) : M_askedBut_b82 s m = some (0, fmM m 3 (m 0 4)) := by
  unfold M_askedBut_b82
  rw [blame_0 h, Option.bind_some]
  unfold M_askedBut_b91
  rw [if_neg (by rw [fmM_8]; decide)]
  unfold M_askedBut_b102
  rw [if_pos (by rw [fmM_8]; decide)]
theorem knownBeast_J {c : zX} {i b but : Int} {zd : Nat} {mC mM : zM} (hL : LX c) (h : PC c i mC) (hM : PM c i mM) (hz : zd = 55 ∨ zd = 72) (h3 : mC 1 3 = (zd : Int) + 1) (z : ZM (zv mC zd) mM b) (hb : mM 0 32 = b) (b1 : b = 0 ∨ b = 1) : wp (Pa_knownBeast mC) (fun a => wp (M_askedBut 0 but mM) (fun b => JA c i (zv mC zd 0 0) but mC mM a b)) := by
  have bi := hM.i0 hL
  unfold Pa_knownBeast M_askedBut
  rw [kind_ok hL h hM, Option.bind_some]
  by_cases c7 : xm c 4 i = 257
  · rw [if_neg (by omega), fail_ok hL h hM, Option.bind_some, lex_bad hM c7, Option.bind_some, if_pos (by rw [fmM_8]; decide)]
    exact wp_some (wp_some ⟨Or.inr ⟨rfl, FE_fm (by decide), rfl⟩, fmC_K, fmM_G⟩)
  · rw [lex_ok hM c7, Option.bind_some, if_neg (show ¬ 0 < mM 0 8 by rw [hM.2.2.2.1]; decide)]
    have p1 : plc c 1 i = xm c 5 i := if_neg (fun x => c7 x.2)
    have p3 : plc c 3 i = xm c 5 i := if_neg (fun x => absurd x.1 (by decide))
    by_cases ck : xm c 4 i = 258
    · obtain ⟨s1, s2, s3⟩ := hM.name ck
      obtain ⟨v, v1, v2, v3⟩ := beastCalled_J (x := xm c 6 i) (w := mM 0 7) rfl z hb b1 s2
      rw [if_pos ck, mro_ok (z := zd) h3 (kdz hz), h.2, rd_ok bi.1 bi.2.1, h.1.2.2.2.1, v1, Option.bind_some, pf_ok, ru3 rfl rfl, if_pos s1, s3, Option.bind_some, if_pos rfl]
      unfold M_askedBut_b41
      rw [if_neg (show ¬ 0 < mM 0 8 by rw [hM.2.2.2.1]; decide), v2, Option.bind_some]
      unfold M_askedBut_b61
      rw [if_pos hM.2.2.2.1]
      have fK : frK mC (upm mC 1 8 v) := frK.refl.put (by simp)
      have hK : PC c i (upm mC 1 8 v) := h.keep fK (by rw [ru2 (by decide)]; exact h.2)
      by_cases cv : v = -1
      · rw [if_pos cv, if_pos cv, fail_ok hL hK hM, Option.bind_some, asked_b82F hM.2.2.2.1, hM.at, p3]
        exact wp_some (wp_some ⟨Or.inr ⟨rfl, FE_fm (by decide), rfl⟩, fK.trans fmC_K, fmM_G⟩)
      · have v0 : 0 ≤ v ∧ v < zv mC zd 0 0 := by
          rcases v3 with w | w
          · exact absurd w cv
          · exact w
        rw [if_neg cv, if_neg cv, pf_ok, hK.2, wI_ok (x := i + 1) (by omega) (by omega), M_has2_ok, Option.bind_some]
        have f7 : frK mC (upm (upm mC 1 8 v) 1 7 (i + 1)) := fK.put (by simp)
        have e8 : upm (upm mC 1 8 v) 1 7 (i + 1) 1 8 = v := by rw [ru2 (by decide), ru3 rfl rfl]
        have k7 : PC c (i + 1) (upm (upm mC 1 8 v) 1 7 (i + 1)) := hK.keep (frK.refl.put (by simp)) (ru3 rfl rfl)
        by_cases ch : anI (srI but v) 1 = 0
        · rw [if_pos ch]
          unfold M_askedBut_b91
          rw [if_pos hM.2.2.2.1]
          refine wp_some (wp_bm (hM.step hL (hM.lt hL (by omega) c7)) (fun b ⟨b1, b2⟩ => ?_))
          unfold M_askedBut_b102
          rw [if_neg (by rw [b1.2.2.2.1]; decide)]
          refine wp_some ⟨Or.inl ⟨rfl, k7, ?_⟩, f7, b2.G⟩
          show (0 ≤ upm (upm mC 1 8 v) 1 7 (i + 1) 1 8 ∧ upm (upm mC 1 8 v) 1 7 (i + 1) 1 8 < _) ∧ ((PM c (i + 1) b ∧ v = upm (upm mC 1 8 v) 1 7 (i + 1) 1 8 ∧ anI (srI but (upm (upm mC 1 8 v) 1 7 (i + 1) 1 8)) 1 = 0) ∨ _)
          rw [e8]
          exact ⟨v0, Or.inl ⟨b1, rfl, ch⟩⟩
        · rw [if_neg ch, asked_b82F hM.2.2.2.1]
          refine wp_some (wp_some ⟨Or.inl ⟨rfl, k7, ?_⟩, f7, fmM_G⟩)
          show (0 ≤ upm (upm mC 1 8 v) 1 7 (i + 1) 1 8 ∧ upm (upm mC 1 8 v) 1 7 (i + 1) 1 8 < _) ∧ (_ ∨ (anI (srI but (upm (upm mC 1 8 v) 1 7 (i + 1) 1 8)) 1 = 1 ∧ fmM mM 3 (mM 0 4) 0 8 = 3 ∧ fmM mM 3 (mM 0 4) 0 9 = xm c 5 i ∧ (0 : Int) = 0))
          rw [e8]
          refine ⟨v0, Or.inr ⟨?_, fmM_8, by rw [fmM_9]; exact hM.at, rfl⟩⟩
          rcases an1 (srI but v) with w | w
          · exact absurd w ch
          · exact w
    · rw [if_neg ck, fail_ok hL h hM, Option.bind_some]
      have bad : wp (some ((0 : Int), fmC mC 1 (plc c 1 i))) (fun a => wp (M_askedBut_b32 0 but mM) (fun b => JA c i (zv mC zd 0 0) but mC mM a b)) := by
        unfold M_askedBut_b32
        rw [blame_0 hM.2.2.2.1, Option.bind_some]
        unfold M_askedBut_b41
        rw [if_pos (by rw [fmM_8]; decide), asked_b61F (by rw [fmM_8]; decide), hM.at, p1]
        exact wp_some (wp_some ⟨Or.inr ⟨rfl, FE_fm (by decide), rfl⟩, fmC_K, fmM_G⟩)
      rcases hM.noname ck c7 with s | s
      · rw [if_neg s]
        exact bad
      · by_cases s3 : mM 0 3 = 1
        · rw [if_pos s3, s, Option.bind_some, if_neg (by decide)]
          exact bad
        · rw [if_neg s3]
          exact bad
theorem knownGuest_J {c : zX} {i b but : Int} {zd : Nat} {mC mM : zM} (hL : LX c) (h : PC c i mC) (hM : PM c i mM) (hz : zd = 55 ∨ zd = 72) (h3 : mC 1 3 = (zd : Int) + 1) (z : ZM (zv mC zd) mM b) (hb : mM 0 32 = b) (b1 : b = 0 ∨ b = 1) : wp (Pa_knownGuest mC) (fun a => wp (M_askedBut 1 but mM) (fun b => JA c i (zv mC zd 0 1) but mC mM a b)) := by
  have bi := hM.i0 hL
  unfold Pa_knownGuest M_askedBut
  rw [kind_ok hL h hM, Option.bind_some]
  by_cases c7 : xm c 4 i = 257
  · rw [if_neg (by omega), fail_ok hL h hM, Option.bind_some, lex_bad hM c7, Option.bind_some, if_pos (by rw [fmM_8]; decide)]
    exact wp_some (wp_some ⟨Or.inr ⟨rfl, FE_fm (by decide), rfl⟩, fmC_K, fmM_G⟩)
  · rw [lex_ok hM c7, Option.bind_some, if_neg (show ¬ 0 < mM 0 8 by rw [hM.2.2.2.1]; decide)]
    have p1 : plc c 1 i = xm c 5 i := if_neg (fun x => c7 x.2)
    have p3 : plc c 3 i = xm c 5 i := if_neg (fun x => absurd x.1 (by decide))
    by_cases ck : xm c 4 i = 258
    · obtain ⟨s1, s2, s3⟩ := hM.name ck
      obtain ⟨v, v1, v2, v3⟩ := guestCalled_J (x := xm c 6 i) (w := mM 0 7) rfl z hb b1 s2
      rw [if_pos ck, mro_ok (z := zd) h3 (kdz hz), h.2, rd_ok bi.1 bi.2.1, h.1.2.2.2.1, v1, Option.bind_some, pf_ok, ru3 rfl rfl, if_pos s1, s3, Option.bind_some, if_pos rfl]
      unfold M_askedBut_b41
      rw [if_neg (show ¬ 0 < mM 0 8 by rw [hM.2.2.2.1]; decide), v2, Option.bind_some]
      unfold M_askedBut_b61
      rw [if_pos hM.2.2.2.1]
      have fK : frK mC (upm mC 1 8 v) := frK.refl.put (by simp)
      have hK : PC c i (upm mC 1 8 v) := h.keep fK (by rw [ru2 (by decide)]; exact h.2)
      by_cases cv : v = -1
      · rw [if_pos cv, if_pos cv, fail_ok hL hK hM, Option.bind_some, asked_b82F hM.2.2.2.1, hM.at, p3]
        exact wp_some (wp_some ⟨Or.inr ⟨rfl, FE_fm (by decide), rfl⟩, fK.trans fmC_K, fmM_G⟩)
      · have v0 : 0 ≤ v ∧ v < zv mC zd 0 1 := by
          rcases v3 with w | w
          · exact absurd w cv
          · exact w
        rw [if_neg cv, if_neg cv, pf_ok, hK.2, wI_ok (x := i + 1) (by omega) (by omega), M_has2_ok, Option.bind_some]
        have f7 : frK mC (upm (upm mC 1 8 v) 1 7 (i + 1)) := fK.put (by simp)
        have e8 : upm (upm mC 1 8 v) 1 7 (i + 1) 1 8 = v := by rw [ru2 (by decide), ru3 rfl rfl]
        have k7 : PC c (i + 1) (upm (upm mC 1 8 v) 1 7 (i + 1)) := hK.keep (frK.refl.put (by simp)) (ru3 rfl rfl)
        by_cases ch : anI (srI but v) 1 = 0
        · rw [if_pos ch]
          unfold M_askedBut_b91
          rw [if_pos hM.2.2.2.1]
          refine wp_some (wp_bm (hM.step hL (hM.lt hL (by omega) c7)) (fun b ⟨b1, b2⟩ => ?_))
          unfold M_askedBut_b102
          rw [if_neg (by rw [b1.2.2.2.1]; decide)]
          refine wp_some ⟨Or.inl ⟨rfl, k7, ?_⟩, f7, b2.G⟩
          show (0 ≤ upm (upm mC 1 8 v) 1 7 (i + 1) 1 8 ∧ upm (upm mC 1 8 v) 1 7 (i + 1) 1 8 < _) ∧ ((PM c (i + 1) b ∧ v = upm (upm mC 1 8 v) 1 7 (i + 1) 1 8 ∧ anI (srI but (upm (upm mC 1 8 v) 1 7 (i + 1) 1 8)) 1 = 0) ∨ _)
          rw [e8]
          exact ⟨v0, Or.inl ⟨b1, rfl, ch⟩⟩
        · rw [if_neg ch, asked_b82F hM.2.2.2.1]
          refine wp_some (wp_some ⟨Or.inl ⟨rfl, k7, ?_⟩, f7, fmM_G⟩)
          show (0 ≤ upm (upm mC 1 8 v) 1 7 (i + 1) 1 8 ∧ upm (upm mC 1 8 v) 1 7 (i + 1) 1 8 < _) ∧ (_ ∨ (anI (srI but (upm (upm mC 1 8 v) 1 7 (i + 1) 1 8)) 1 = 1 ∧ fmM mM 3 (mM 0 4) 0 8 = 3 ∧ fmM mM 3 (mM 0 4) 0 9 = xm c 5 i ∧ (0 : Int) = 0))
          rw [e8]
          refine ⟨v0, Or.inr ⟨?_, fmM_8, by rw [fmM_9]; exact hM.at, rfl⟩⟩
          rcases an1 (srI but v) with w | w
          · exact absurd w ch
          · exact w
    · rw [if_neg ck, fail_ok hL h hM, Option.bind_some]
      have bad : wp (some ((0 : Int), fmC mC 1 (plc c 1 i))) (fun a => wp (M_askedBut_b32 1 but mM) (fun b => JA c i (zv mC zd 0 1) but mC mM a b)) := by
        unfold M_askedBut_b32
        rw [blame_0 hM.2.2.2.1, Option.bind_some]
        unfold M_askedBut_b41
        rw [if_pos (by rw [fmM_8]; decide), asked_b61F (by rw [fmM_8]; decide), hM.at, p1]
        exact wp_some (wp_some ⟨Or.inr ⟨rfl, FE_fm (by decide), rfl⟩, fmC_K, fmM_G⟩)
      rcases hM.noname ck c7 with s | s
      · rw [if_neg s]
        exact bad
      · by_cases s3 : mM 0 3 = 1
        · rw [if_pos s3, s, Option.bind_some, if_neg (by decide)]
          exact bad
        · rw [if_neg s3]
          exact bad
