/-! sums and tests: codes, types, frames -/
theorem slI_8 {a : Nat} (ha : a < 2 ^ 23) : slI (a : Int) 8 = ((256 * a : Nat) : Int) := by
  unfold slI
  have e : Int32.ofInt (a : Int) <<< (Int32.ofInt 8 &&& 31) = Int32.ofInt ((256 * a : Nat) : Int) := by
    apply Int32.toBitVec_inj.1
    rw [Int32.toBitVec_shiftLeft]
    show BitVec.ofInt 32 (a : Int) <<< ((nI 8 &&& 31).toBitVec.smod 32).toNat = BitVec.ofInt 32 ((256 * a : Nat) : Int)
    rw [s_l 8 (by decide), BitVec.ofInt_natCast, BitVec.ofInt_natCast]
    apply BitVec.eq_of_toNat_eq
    rw [BitVec.toNat_shiftLeft, BitVec.toNat_ofNat, BitVec.toNat_ofNat, Nat.shiftLeft_eq]
    omega
  rw [e, tI_oI ⟨by omega, by omega⟩]
theorem pack_ok {x op : Int} (x0 : 0 ≤ x) (x1 : x ≤ 9999) (o0 : 0 ≤ op) (o1 : op ≤ 255) : orI (slI x 8) op = x * 256 + op := by
  obtain ⟨k, rfl⟩ : ∃ k : Nat, x = (k : Int) := ⟨x.toNat, by omega⟩
  obtain ⟨y, rfl⟩ : ∃ k : Nat, op = (k : Int) := ⟨op.toNat, by omega⟩
  rw [slI_8 (by omega), orI_nat (by omega) (by omega)]
  have e := Nat.two_pow_add_eq_or_of_lt (b := y) (i := 8) (by omega) k
  rw [show (2 : Nat) ^ 8 = 256 from rfl] at e
  rw [← e]
  omega
/-- a code: of the class, its sort and value of the model -/
abbrev zC : Type := Int × Int × Int
def dC : zC := (0, 0, 0)
def cdM (b lo : Int) (M : List zC) (m : zM) : Prop := m 0 31 = lo + (M.length : Int) ∧ ∀ j : Nat, j < M.length → m 15 (1600 * b + lo + (j : Int)) = (M.getD j dC).2.1 ∧ m 16 (1600 * b + lo + (j : Int)) = (M.getD j dC).2.2
def cdC (zf : Nat) (G : List zC) (m : zM) : Prop := m zf 1 = (G.length : Int) ∧ ∀ j : Nat, j < G.length → m (zf + 1) (j : Int) = (G.getD j dC).1
theorem getD_a {L : List zC} {x : zC} {j : Nat} (h : j < L.length) : (L ++ [x]).getD j dC = L.getD j dC := by rw [List.getD_eq_getElem?_getD, List.getD_eq_getElem?_getD, List.getElem?_append_left h]
theorem getD_l {L : List zC} {x : zC} : (L ++ [x]).getD L.length dC = x := by
  rw [List.getD_eq_getElem?_getD, List.getElem?_append_right (Nat.le_refl _), Nat.sub_self]
  rfl
theorem add_M {b lo s v x : Int} {M : List zC} {m : zM} (h : cdM b lo M m) (hb : m 0 32 = b) (b1 : b = 0 ∨ b = 1) (l0 : 0 ≤ lo) (l1 : lo + (M.length : Int) < 1600) : ∃ m', M_add s v m = some m' ∧ cdM b lo (M ++ [(x, s, v)]) m' ∧ m' = upm (upm (upm m 15 (1600 * b + lo + (M.length : Int)) s) 16 (1600 * b + lo + (M.length : Int)) v) 0 31 (lo + (M.length : Int) + 1) := by
  obtain ⟨h1, h2⟩ := h
  have e0 : 1600 * b + (lo + (M.length : Int)) = 1600 * b + lo + (M.length : Int) := by omega
  refine ⟨_, ?_, ⟨?_, fun j hj => ?_⟩, rfl⟩
  · unfold M_add
    rw [hb, h1, wI_ok (x := 1600 * b) (by omega) (by omega), wI_ok (x := 1600 * b + (lo + (M.length : Int))) (by omega) (by omega), wr_ok (by omega) (by omega), ru1 (by decide), hb, ru1 (by decide), h1, wI_ok (x := 1600 * b) (by omega) (by omega), wI_ok (x := 1600 * b + (lo + (M.length : Int))) (by omega) (by omega), wr_ok (by omega) (by omega), ru1 (by decide), ru1 (by decide), h1, wI_ok (by omega) (by omega), pf_ok, e0]
  · rw [ru3 rfl rfl, List.length_append, List.length_singleton]
    omega
  · rw [List.length_append, List.length_singleton] at hj
    have R5 : ∀ i, upm (upm (upm m 15 (1600 * b + lo + (M.length : Int)) s) 16 (1600 * b + lo + (M.length : Int)) v) 0 31 (lo + (M.length : Int) + 1) 15 i = sets (m 15) (1600 * b + lo + (M.length : Int)) s i := fun i => by rw [ru1 (by decide), ru1 (by decide), upm_eq]
    have R6 : ∀ i, upm (upm (upm m 15 (1600 * b + lo + (M.length : Int)) s) 16 (1600 * b + lo + (M.length : Int)) v) 0 31 (lo + (M.length : Int) + 1) 16 i = sets (m 16) (1600 * b + lo + (M.length : Int)) v i := fun i => by rw [ru1 (by decide), upm_eq, upm_ne (by decide)]
    rw [R5, R6]
    by_cases e : j = M.length
    · subst e
      rw [getD_l, sets_eq, sets_eq]
      exact ⟨rfl, rfl⟩
    · rw [getD_a (by omega), sets_ne (by omega), sets_ne (by omega)]
      exact h2 j (by omega)
theorem add_C {zf : Nat} {op x s v : Int} {G : List zC} {m : zM} (h : cdC zf G m) (x0 : 0 ≤ x) (x1 : x ≤ 9999) (o0 : 0 ≤ op) (o1 : op ≤ 255) (l1 : (G.length : Int) < 1600) : ∃ m', Fo_add zf op x m = some m' ∧ cdC zf (G ++ [(x * 256 + op, s, v)]) m' ∧ m' = upm (upm m (zf + 1) (G.length : Int) (x * 256 + op)) zf 1 ((G.length : Int) + 1) := by
  obtain ⟨h1, h2⟩ := h
  refine ⟨_, ?_, ⟨?_, fun j hj => ?_⟩, rfl⟩
  · unfold Fo_add
    rw [h1, if_pos l1, wr_ok (by omega) (by omega), ru1 (by omega), h1, wI_ok (by omega) (by omega), pf_ok, pack_ok x0 x1 o0 o1]
  · rw [ru3 rfl rfl, List.length_append, List.length_singleton]
    omega
  · rw [List.length_append, List.length_singleton] at hj
    rw [ru1 (by omega)]
    by_cases e : j = G.length
    · subst e
      rw [getD_l, ru3 rfl rfl]
    · rw [getD_a (by omega), ru2 (by omega)]
      exact h2 j (by omega)
/-- what is on hold: its rank, its code of the class -/
def rkV (op : Int) : Int := if op = 42 then 1 else if op = 41 then 2 else if op = 43 then 3 else if op = 38 ∨ op = 39 ∨ op = 40 then 4 else if op = 31 ∨ op = 32 then 5 else 6
def opc (op : Int) : Int := if op = 42 then 8 else if op = 41 then 7 else if op = 43 then 6 else if op = 38 then 60 else if op = 39 then 62 else if op = 40 then 61 else if op = 31 then 43 else if op = 32 then 45 else if op = 33 then 42 else if op = 34 then 47 else 37
def opE (op : Int) : zC := (opc op, op, 0)
theorem rank_ok (op : Int) : M_rank op = some (rkV op) := by
  unfold M_rank rkV
  by_cases h1 : op = 42
  · rw [if_pos h1, if_pos h1]
  · rw [if_neg h1, if_neg h1]
    by_cases h2 : op = 41
    · rw [if_pos h2, if_pos h2]
    · rw [if_neg h2, if_neg h2]
      by_cases h3 : op = 43
      · rw [if_pos h3, if_pos h3]
      · rw [if_neg h3, if_neg h3]
        by_cases h4 : op = 38
        · rw [if_pos h4, if_pos (Or.inl h4)]
        · rw [if_neg h4]
          by_cases h5 : op = 39
          · rw [if_pos h5, if_pos (Or.inr (Or.inl h5))]
          · rw [if_neg h5]
            by_cases h6 : op = 40
            · rw [if_pos h6, if_pos (Or.inr (Or.inr h6))]
            · rw [if_neg h6, if_neg (show ¬ (op = 38 ∨ op = 39 ∨ op = 40) by omega)]
              by_cases h7 : op = 31
              · rw [if_pos h7, if_pos (Or.inl h7)]
              · rw [if_neg h7]
                by_cases h8 : op = 32
                · rw [if_pos h8, if_pos (Or.inr h8)]
                · rw [if_neg h8, if_neg (show ¬ (op = 31 ∨ op = 32) by omega)]
/-- how many NOTs are on hold -/
def nots : List Int → Int
  | [] => 0
  | op :: L => (if op = 43 then 1 else 0) + nots L
theorem nots_app {L : List Int} {op : Int} : nots (L ++ [op]) = nots L + (if op = 43 then 1 else 0) := by
  induction L with
  | nil => show (if op = 43 then (1 : Int) else 0) + 0 = 0 + _; omega
  | cons a L ih =>
    show (if a = 43 then (1 : Int) else 0) + nots (L ++ [op]) = (if a = 43 then (1 : Int) else 0) + nots L + _
    rw [ih]
    omega
theorem nots_b : ∀ L : List Int, 0 ≤ nots L ∧ nots L ≤ (L.length : Int)
  | [] => ⟨Int.le_refl _, Int.le_refl _⟩
  | a :: L => by
    have := nots_b L
    show 0 ≤ (if a = 43 then (1 : Int) else 0) + nots L ∧ (if a = 43 then (1 : Int) else 0) + nots L ≤ ((L.length + 1 : Nat) : Int)
    split <;> omega
theorem nots_0 : ∀ L : List Int, (∀ op ∈ L, 4 ≤ rkV op) → nots L = 0
  | [], _ => rfl
  | a :: L, h => by
    have := h a (List.mem_cons_self ..)
    show (if a = 43 then (1 : Int) else 0) + nots L = 0
    rw [nots_0 L (fun op ho => h op (List.mem_cons_of_mem _ ho))]
    by_cases e : a = 43
    · subst e
      exact absurd this (by decide)
    · rw [if_neg e]
      rfl
/-- the frame of a pop: codes, how many, how many are open -/
def FJ (b lo : Int) (m m' : zM) : Prop := (∀ a, a ≠ 0 → a ≠ 15 → a ≠ 16 → m' a = m a) ∧ (∀ j, j ≠ 31 → j ≠ 40 → j ≠ 42 → m' 0 j = m 0 j) ∧ ∀ j, j < 1600 * b + lo ∨ 1600 * b + 1600 ≤ j → m' 15 j = m 15 j ∧ m' 16 j = m 16 j
theorem FJ.refl {b lo : Int} {m : zM} : FJ b lo m m := ⟨fun _ _ _ _ => rfl, fun _ _ _ _ => rfl, fun _ _ => ⟨rfl, rfl⟩⟩
theorem FJ.trans {b lo : Int} {m m' m2 : zM} (h : FJ b lo m m') (h2 : FJ b lo m' m2) : FJ b lo m m2 := ⟨fun a q1 q2 q3 => by rw [h2.1 a q1 q2 q3, h.1 a q1 q2 q3], fun j q1 q2 q3 => by rw [h2.2.1 j q1 q2 q3, h.2.1 j q1 q2 q3], fun j q => by rw [(h2.2.2 j q).1, (h2.2.2 j q).2]; exact h.2.2 j q⟩
theorem FJ.put0 {b lo j x : Int} {m m' : zM} (h : FJ b lo m m') (hj : j = 31 ∨ j = 40 ∨ j = 42) : FJ b lo m (upm m' 0 j x) := ⟨fun a q1 q2 q3 => by rw [upm_ne q1]; exact h.1 a q1 q2 q3, fun k q1 q2 q3 => by rw [ru2 (by omega)]; exact h.2.1 k q1 q2 q3, fun k q => by rw [ru1 (by decide), ru1 (by decide)]; exact h.2.2 k q⟩
theorem FJ.put15 {b lo i x : Int} {m m' : zM} (h : FJ b lo m m') (i0 : 1600 * b + lo ≤ i) (i1 : i < 1600 * b + 1600) : FJ b lo m (upm m' 15 i x) := ⟨fun a q1 q2 q3 => by rw [upm_ne q2]; exact h.1 a q1 q2 q3, fun k q1 q2 q3 => by rw [ru1 (by decide)]; exact h.2.1 k q1 q2 q3, fun k q => by rw [ru2 (by omega), ru1 (by decide)]; exact h.2.2 k q⟩
theorem FJ.put16 {b lo i x : Int} {m m' : zM} (h : FJ b lo m m') (i0 : 1600 * b + lo ≤ i) (i1 : i < 1600 * b + 1600) : FJ b lo m (upm m' 16 i x) := ⟨fun a q1 q2 q3 => by rw [upm_ne q3]; exact h.1 a q1 q2 q3, fun k q1 q2 q3 => by rw [ru1 (by decide)]; exact h.2.1 k q1 q2 q3, fun k q => by rw [ru1 (by decide), ru2 (by omega)]; exact h.2.2 k q⟩
theorem FJ.add {b lo s v n x : Int} {m m' : zM} (h : FJ b lo m m') (n0 : 0 ≤ n) (n1 : lo + n < 1600) : FJ b lo m (upm (upm (upm m' 15 (1600 * b + lo + n) s) 16 (1600 * b + lo + n) v) 0 31 x) := ((h.put15 (by omega) (by omega)).put16 (by omega) (by omega)).put0 (by simp)
/-- what is popped: all on hold of a rank no less -/
theorem joins_M {b lo D least o P0 : Int} (b1 : b = 0 ∨ b = 1) (l0 : 0 ≤ lo) (D0 : 1 ≤ D) (D1 : D ≤ 8) (P1 : 0 ≤ P0) (o0 : 0 ≤ o) (o1 : o ≤ 7) : ∀ (d : Nat) (Eb : List Int) (M : List zC) (m : zM), Eb.length = d → cdM b lo M m → m 0 32 = b → m 0 39 = D → m 0 42 = P0 + (Eb.length : Int) → m 0 40 = o + nots Eb → (∀ k : Nat, k < Eb.length → m 24 (P0 + (k : Int)) = Eb.getD k 0) → (∀ op ∈ Eb, least ≤ rkV op) → m 23 (D - 1) ≤ P0 → (P0 = m 23 (D - 1) ∨ rkV (m 24 (P0 - 1)) < least) → 0 ≤ m 23 (D - 1) → lo + (M.length : Int) + (Eb.length : Int) ≤ 1600 → P0 + (Eb.length : Int) ≤ 500 →
    ∀ n : Nat, d < n → ∃ m', M_joins_L0 n least m = some m' ∧ cdM b lo (M ++ (Eb.reverse).map opE) m' ∧ m' 0 42 = P0 ∧ m' 0 40 = o ∧ FJ b lo m m' := by
  intro d
  induction d with
  | zero =>
    intro Eb M m hd hc h32 h39 h42 h40 h24 hr h23 hP hB hl hp n hn
    have e : Eb = [] := List.eq_nil_of_length_eq_zero hd
    subst e
    obtain ⟨n, rfl⟩ : ∃ k, n = k + 1 := ⟨n - 1, by omega⟩
    have z : nots [] = 0 := rfl
    have l : (([] : List Int).length : Int) = 0 := rfl
    rw [l] at h42 hp
    refine ⟨m, ?_, by rw [List.reverse_nil, List.map_nil, List.append_nil]; exact hc, by omega, by omega, FJ.refl⟩
    show M_joins_B0 _ _ _ = _
    unfold M_joins_B0
    rw [h39, wI_ok (x := D - 1) (by omega) (by omega), rd_ok (by omega) (by omega), h42]
    by_cases c : m 23 (D - 1) < P0 + 0
    · have rk : rkV (m 24 (P0 - 1)) < least := by
        rcases hP with w | w
        · omega
        · exact w
      rw [if_pos c, wI_ok (x := P0 + 0 - 1) (by omega) (by omega), rd_ok (by omega) (by omega), rank_ok, Option.bind_some, show P0 + 0 - 1 = P0 - 1 from by omega, if_pos rk]
    · rw [if_neg c]
  | succ d ih =>
    intro Eb M m hd hc h32 h39 h42 h40 h24 hr h23 hP hB hl hp n hn
    obtain ⟨n, rfl⟩ : ∃ k, n = k + 1 := ⟨n - 1, by omega⟩
    rcases List.eq_nil_or_concat Eb with e | ⟨E', op, e⟩
    · subst e; cases hd
    · rw [List.concat_eq_append] at e
      subst e
      have hlen : (E' ++ [op]).length = E'.length + 1 := by rw [List.length_append, List.length_singleton]
      rw [hlen] at hd h42 hl hp
      have top : m 24 (P0 + (E'.length : Int)) = op := by
        rw [h24 E'.length (by omega)]
        rw [List.getD_eq_getElem?_getD, List.getElem?_append_right (Nat.le_refl _), Nat.sub_self]
        rfl
      have rk := hr op (List.mem_append_right _ (List.mem_singleton.mpr rfl))
      rw [nots_app] at h40
      have nb := nots_b E'
      have hc1 : cdM b lo M (upm m 0 42 (P0 + (E'.length : Int))) := by
        refine ⟨by rw [ru2 (by decide)]; exact hc.1, fun j hj => by rw [ru1 (by decide), ru1 (by decide)]; exact hc.2 j hj⟩
      obtain ⟨m1, a1, a2, a3⟩ := add_M (s := op) (v := 0) (x := opc op) hc1 (by rw [ru2 (by decide)]; exact h32) b1 l0 (by omega)
      have f1 : FJ b lo m m1 := by
        rw [a3]
        exact (FJ.refl.put0 (by simp)).add (by omega) (by omega)
      have m24 : m1 24 = m 24 := f1.1 24 (by decide) (by decide) (by decide)
      have m42 : m1 0 42 = P0 + (E'.length : Int) := by rw [a3, ru2 (by decide), ru1 (by decide), ru1 (by decide), ru3 rfl rfl]
      have m40 : m1 0 40 = m 0 40 := by rw [a3, ru2 (by decide), ru1 (by decide), ru1 (by decide), ru2 (by decide)]
      have rest : ∀ m2 : zM, FJ b lo m m2 → cdM b lo (M ++ [(opc op, op, 0)]) m2 → m2 0 42 = P0 + (E'.length : Int) → m2 0 40 = o + nots E' → ∃ m', M_joins_L0 n least m2 = some m' ∧ cdM b lo (M ++ ((E' ++ [op]).reverse).map opE) m' ∧ m' 0 42 = P0 ∧ m' 0 40 = o ∧ FJ b lo m m' := by
        intro m2 f2 c2 k42 k40
        have g24 : m2 24 = m 24 := f2.1 24 (by decide) (by decide) (by decide)
        have g23 : m2 23 = m 23 := f2.1 23 (by decide) (by decide) (by decide)
        obtain ⟨m', b1', b2, b3, b4, b5⟩ := ih E' (M ++ [(opc op, op, 0)]) m2 (by omega) c2 (by rw [f2.2.1 32 (by decide) (by decide) (by decide)]; exact h32) (by rw [f2.2.1 39 (by decide) (by decide) (by decide)]; exact h39) k42 k40 (fun k hk => by
          rw [g24, h24 k (by omega), List.getD_eq_getElem?_getD, List.getElem?_append_left hk, List.getD_eq_getElem?_getD]) (fun x hx => hr x (List.mem_append_left _ hx)) (by rw [g23]; exact h23) (by rw [g23, g24]; exact hP) (by rw [g23]; exact hB) (by rw [List.length_append, List.length_singleton]; omega) (by omega) n (by omega)
        refine ⟨m', b1', ?_, b3, b4, f2.trans b5⟩
        rw [List.reverse_append, List.reverse_singleton, List.map_append, List.map_singleton, ← List.append_assoc]
        exact b2
      show ∃ m', M_joins_B0 (M_joins_L0 n) least m = some m' ∧ _
      unfold M_joins_B0
      rw [h39, wI_ok (x := D - 1) (by omega) (by omega), rd_ok (by omega) (by omega), h42, if_pos (by omega), wI_ok (x := P0 + ((E'.length + 1 : Nat) : Int) - 1) (by omega) (by omega), show P0 + ((E'.length + 1 : Nat) : Int) - 1 = P0 + (E'.length : Int) from by omega, rd_ok (by omega) (by omega), rank_ok, Option.bind_some, top, if_neg (by omega), pf_ok, ru3 rfl rfl, rd_ok (by omega) (by omega), ru1 (by decide), top, a1, Option.bind_some, m42, rd_ok (by omega) (by omega), m24, top]
      by_cases c : op = 43
      · rw [if_pos c, pf_ok, m40, h40, if_pos c, wI_ok (by omega) (by omega)]
        rw [if_pos c] at h40
        refine rest _ (f1.put0 (by simp)) ⟨by rw [ru2 (by decide)]; exact a2.1, fun j hj => by rw [ru1 (by decide), ru1 (by decide)]; exact a2.2 j hj⟩ (by rw [ru2 (by decide)]; exact m42) (by rw [ru3 rfl rfl]; omega)
      · rw [if_neg c]
        rw [if_neg c] at h40
        exact rest m1 f1 a2 m42 (by rw [m40, h40]; omega)
/-- types of what is emitted -/
def tyG (G : List zC) : Option (List Bool) := G.foldl (fun T e => T.bind (tst e.2.1)) (some [])
theorem tyG_app {G : List zC} {e : zC} : tyG (G ++ [e]) = (tyG G).bind (tst e.2.1) := by
  unfold tyG
  rw [List.foldl_append]
  rfl
def WG (mx : Int) (G : List zC) (T : List Bool) : Prop := tyG G = some T ∧ (∀ j T', j ≤ G.length → tyG (G.take j) = some T' → T'.length ≤ 41) ∧ ∀ e ∈ G, crel e.1 e.2.1 e.2.2 ∧ (e.2.1 ≤ mx ∨ 30 ≤ e.2.1)
theorem WG.push {mx c s v : Int} {G : List zC} {T T' : List Bool} (h : WG mx G T) (t : tst s T = some T') (l : T'.length ≤ 41) (r : crel c s v) (r2 : s ≤ mx ∨ 30 ≤ s) : WG mx (G ++ [(c, s, v)]) T' := by
  have e : tyG (G ++ [(c, s, v)]) = some T' := by
    rw [tyG_app, h.1]
    exact t
  refine ⟨e, fun j U hj hU => ?_, fun x hx => ?_⟩
  · rw [List.length_append, List.length_singleton] at hj
    by_cases q : j = G.length + 1
    · rw [List.take_of_length_le (by rw [List.length_append, List.length_singleton]; omega), e] at hU
      cases hU
      exact l
    · rw [List.take_append_of_le_length (by omega)] at hU
      exact h.2.1 j U (by omega) hU
  · rcases List.mem_append.mp hx with w | w
    · exact h.2.2 x w
    · rw [List.mem_singleton.mp w]
      exact ⟨r, r2⟩
theorem WG.nil {mx : Int} : WG mx [] [] := ⟨rfl, fun j T' hj hT => by
  have : j = 0 := by simpa using hj
  subst this
  cases hT
  exact Nat.zero_le _, fun e he => by cases he⟩
