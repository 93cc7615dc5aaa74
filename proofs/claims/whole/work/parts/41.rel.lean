/-! the relation between the class's memory and the model's -/
/-- a state of the class, seen as cells 0 .. 7 -/
def sv (m : zM) (o : Nat) : zM := fun k j => match k with
  | 0 => if j = 0 ∨ j = 1 ∨ j = 2 ∨ j = 10 ∨ j = 11 then m o j else 0
  | 1 => if 0 ≤ j ∧ j < 24 then m (o + 1) j else 0
  | 2 => if 0 ≤ j ∧ j < 8 then m (o + 2) j else 0
  | 3 => if 0 ≤ j ∧ j < 8 then m (o + 3) j else 0
  | 4 => if 0 ≤ j ∧ j < 18 then m (o + 4) j else 0
  | 5 => if 0 ≤ j ∧ j < 48 then m (o + 5) j else 0
  | 6 => if 0 ≤ j ∧ j < 48 then m (o + 6) j else 0
  | 7 => if 0 ≤ j ∧ j < 60 then m (o + 7) j else 0
  | _ => 0
/-- a zoo of the class, seen as cells 0 .. 15 -/
def zv (m : zM) (z : Nat) : zM := fun k => if k ≤ 15 ∧ k ≠ 13 then m (z + k) else fun _ => 0
/-- names: the class has one number of six digits to the base 27, the model bytes in a long -/
def nmw (l : List Int) : Int := l.foldl (fun w c => w * 256 + (c + 96)) 0
def nmc : List Int → Nat → Int
  | _, 0 => 0
  | [], n + 1 => 0 * 27 ^ n + nmc [] n
  | c :: l, n + 1 => c * 27 ^ n + nmc l n
def nmR (x w : Int) : Prop := ∃ l : List Int, 1 ≤ l.length ∧ l.length ≤ 6 ∧ (∀ c ∈ l, 1 ≤ c ∧ c ≤ 26) ∧ w = nmw l ∧ x = nmc l 6
/-- codes of a formula: the class packs, the model has a sort and a value -/
def crel (c s v : Int) : Prop := (c % 256 = 1 ∧ 0 ≤ c ∧ ((s = 0 ∧ v = c / 256 ∧ c / 256 ≤ 9999) ∨ (s = 30 ∧ c / 256 = 1))) ∨ (c % 256 = 2 ∧ 0 ≤ c ∧ s = c / 256 + 1 ∧ c / 256 ≤ 8) ∨ (c = 3 ∧ s = 36) ∨ (c = 4 ∧ s = 37) ∨ (c = 5 ∧ s = 44) ∨ (c = 6 ∧ s = 43) ∨ (c = 7 ∧ s = 41) ∨ (c = 8 ∧ s = 42) ∨ (c = 43 ∧ s = 31) ∨ (c = 45 ∧ s = 32) ∨ (c = 42 ∧ s = 33) ∨ (c = 47 ∧ s = 34) ∨ (c = 37 ∧ s = 35) ∨ (c = 60 ∧ s = 38) ∨ (c = 62 ∧ s = 39) ∨ (c = 61 ∧ s = 40)
/-- types on the stack: true a TEST, false a SUM -/
def tst (s : Int) (T : List Bool) : Option (List Bool) :=
  if 0 ≤ s ∧ s ≤ 9 then some (false :: T)
  else if s = 30 then some (true :: T)
  else if 31 ≤ s ∧ s ≤ 37 then (match T with | false :: false :: R => some (false :: R) | _ => none)
  else if 38 ≤ s ∧ s ≤ 40 then (match T with | false :: false :: R => some (true :: R) | _ => none)
  else if s = 41 ∨ s = 42 then (match T with | true :: true :: R => some (true :: R) | _ => none)
  else if s = 43 then (match T with | true :: R => some (true :: R) | _ => none)
  else if s = 44 then (match T with | false :: false :: true :: R => some (false :: R) | _ => none)
  else none
def tyS (so : Int → Int) : Nat → Option (List Bool)
  | 0 => some []
  | n + 1 => (tyS so n).bind (tst (so n))
/-- a formula: told or not; its codes; well typed, of small depth -/
def FR (len : Int) (cd : Int → Int) (mM : zM) (b w : Int) (t : Bool) (mx : Int) : Prop :=
  (len = 0 ∧ mM 13 (2 * b + w) = -1) ∨
  (0 < len ∧ 0 ≤ mM 13 (2 * b + w) ∧ mM 14 (2 * b + w) = mM 13 (2 * b + w) + len ∧ mM 13 (2 * b + w) + len ≤ 1600 ∧
    (∀ j, 0 ≤ j → j < len → crel (cd j) (mM 15 (1600 * b + mM 13 (2 * b + w) + j)) (mM 16 (1600 * b + mM 13 (2 * b + w) + j)) ∧ (mM 15 (1600 * b + mM 13 (2 * b + w) + j) ≤ mx ∨ 30 ≤ mM 15 (1600 * b + mM 13 (2 * b + w) + j))) ∧
    tyS (fun j => mM 15 (1600 * b + mM 13 (2 * b + w) + j)) len.toNat = some [t] ∧
    ∀ (j : Nat) (T : List Bool), (j : Int) ≤ len → tyS (fun j => mM 15 (1600 * b + mM 13 (2 * b + w) + j)) j = some T → T.length ≤ 41)
/-- a row of the class and a stretch of a row of the model, from place b on -/
def AR (P : Int → Prop) (f g : Int → Int) (b lo hi : Int) : Prop := ∀ i, P i → g (b + i) = f i ∧ lo ≤ f i ∧ f i ≤ hi
def pI (n i : Int) : Prop := 0 ≤ i ∧ i < n
def pP (nb ng i : Int) : Prop := 0 ≤ i ∧ i < 8 * nb ∧ i % 8 < ng
theorem AR.at {P : Int → Prop} {f g : Int → Int} {b lo hi i j : Int} (h : AR P f g b lo hi) (hi : P i) (e : j = b + i) : g j = f i := by
  subst e
  exact (h i hi).1
theorem AR.set {P : Int → Prop} {f g : Int → Int} {b lo hi i j v : Int} (h : AR P f g b lo hi) (e : j = b + i) (h1 : lo ≤ v) (h2 : v ≤ hi) : AR P (sets f i v) (sets g j v) b lo hi := by
  subst e
  intro k hk
  unfold sets
  by_cases q : k = i
  · subst q
    rw [if_pos rfl, if_pos rfl]
    exact ⟨rfl, h1, h2⟩
  · rw [if_neg q, if_neg (by omega)]
    exact h k hk
theorem AR.setM {P : Int → Prop} {f g : Int → Int} {b lo hi j v : Int} (h : AR P f g b lo hi) (e : ∀ i, P i → j ≠ b + i) : AR P f (sets g j v) b lo hi := by
  intro k hk
  rw [sets_ne (fun q => e k hk q.symm)]
  exact h k hk
/-- a zoo, in the class's layout, beside a bank of the model -/
def ZM (Z mM : zM) (b : Int) : Prop :=
  (mM 2 b = Z 0 0 ∧ 0 ≤ Z 0 0 ∧ Z 0 0 ≤ 6) ∧ (mM 7 b = Z 0 1 ∧ 0 ≤ Z 0 1 ∧ Z 0 1 ≤ 8) ∧
  AR (pI (Z 0 0)) (Z 2) (mM 3) (6 * b) 0 23 ∧ AR (pI (Z 0 0)) (Z 3) (mM 4) (6 * b) 0 23 ∧ AR (pI (Z 0 0)) (Z 4) (mM 5) (6 * b) 0 99 ∧ AR (pI (3 * Z 0 0)) (Z 5) (mM 6) (18 * b) 0 9 ∧
  AR (pI (Z 0 1)) (Z 7) (mM 9) (8 * b) 0 23 ∧ AR (pI (Z 0 1)) (Z 8) (mM 10) (8 * b) 0 23 ∧ AR (pI (Z 0 1)) (Z 9) (mM 11) (8 * b) 0 63 ∧ AR (pI (3 * Z 0 1)) (Z 10) (mM 8) (24 * b) 0 9 ∧
  (∀ i, 0 ≤ i → i < Z 0 0 → nmR (Z 1 i) (mM 17 (6 * b + i))) ∧ (∀ g, 0 ≤ g → g < Z 0 1 → nmR (Z 6 g) (mM 18 (8 * b + g))) ∧
  ((mM 12 (5 * b) = Z 0 14 ∧ 0 ≤ Z 0 14 ∧ Z 0 14 ≤ 6) ∧ (mM 12 (5 * b + 1) = Z 0 15 ∧ 0 ≤ Z 0 15 ∧ Z 0 15 ≤ 99) ∧ (mM 12 (5 * b + 2) = Z 0 16 ∧ 2 ≤ Z 0 16 ∧ Z 0 16 ≤ 9) ∧ (mM 12 (5 * b + 3) = Z 0 17 ∧ 0 ≤ Z 0 17 ∧ Z 0 17 ≤ 99) ∧ (mM 12 (5 * b + 4) = Z 0 18 ∧ 0 ≤ Z 0 18 ∧ Z 0 18 ≤ 100)) ∧
  FR (Z 11 1) (Z 12) mM b 0 false 6 ∧ FR (Z 14 1) (Z 15) mM b 1 true 9
/-- the kept rows -/
def RW (S : zM) (r : Int → Int) (b : Int) : Prop := ∀ k, 0 ≤ k → k < S 0 11 → (0 ≤ S 7 ((S 0 10 + k) % 60) ∧ S 7 ((S 0 10 + k) % 60) < 4608000) ∧ r (b + 5 * k) = S 7 ((S 0 10 + k) % 60) / 4 / 48 / 24 ∧ r (b + 5 * k + 1) = S 7 ((S 0 10 + k) % 60) / 4 / 48 % 24 ∧ r (b + 5 * k + 2) = S 7 ((S 0 10 + k) % 60) / 4 / 8 % 6 ∧ r (b + 5 * k + 3) = S 7 ((S 0 10 + k) % 60) / 4 % 8 ∧ r (b + 5 * k + 4) = S 7 ((S 0 10 + k) % 60) % 4
/-- a state, in the class's layout, beside a layer of the model; Z for its numbers -/
def SM (Z S mM : zM) (v : Int) : Prop :=
  (mM 27 v = 24 * S 0 0 + S 0 1 ∧ 0 ≤ S 0 0 ∧ S 0 0 ≤ 999 ∧ 0 ≤ S 0 1 ∧ S 0 1 ≤ 23) ∧ (mM 28 v = S 0 2 ∧ 0 ≤ S 0 2 ∧ S 0 2 ≤ 9999) ∧
  AR (pI (3 * Z 0 1)) (S 1) (mM 29) (24 * v) 0 9 ∧ AR (pI (Z 0 1)) (S 2) (mM 30) (8 * v) (-1) (Z 0 0 - 1) ∧ AR (pI (Z 0 1)) (S 3) (mM 31) (8 * v) 0 63 ∧
  AR (pI (3 * Z 0 0)) (S 4) (mM 32) (18 * v) 0 9 ∧ AR (pP (Z 0 0) (Z 0 1)) (S 5) (mM 33) (48 * v) 0 99 ∧ AR (pP (Z 0 0) (Z 0 1)) (S 6) (mM 34) (48 * v) 0 99 ∧
  (mM 35 v = S 0 11 ∧ 0 ≤ S 0 11 ∧ S 0 11 ≤ 60 ∧ 0 ≤ S 0 10 ∧ S 0 10 ≤ 59) ∧ RW S (mM 36) (300 * v)
def RT (tb : Int → Int) (tl : Int) (ub : Int → Int) (ul : Int) : Prop := tl = ul ∧ 0 ≤ tl ∧ tl ≤ 1600 ∧ ∀ i, 0 ≤ i → i < tl → tb i = ub i ∧ 0 ≤ tb i ∧ tb i ≤ 255
def OWNC : List Int := [31389093, 330776973, 294949755, 24977727, 287898273, 111715416, 51278373, 88783965, 177190524, 187559307, 311586040, 37027881, 160605774, 88849062, 258999120, 283981734, 273613383, 123189336, 180462276, 279645453, 287753796, 177193312, 95761440, 132328809, 224799543, 21867813, 209249973, 20962395, 191594322, 187539624]
def RZ (mC mM : zM) (z : Nat) : Prop := (z = 55 ∨ z = 72) ∧ mC 0 12 = (z : Int) + 1 ∧ mC 0 13 = 128 - (z : Int) ∧ (mM 0 13 = 0 ∨ mM 0 13 = 1) ∧ ZM (zv mC z) mM (mM 0 13)
def RL (mC mM : zM) (ng : Int) : Prop := mC 40 0 = mM 0 65 ∧ 0 ≤ mC 40 0 ∧ mC 40 0 ≤ 16 ∧ ∀ k, 0 ≤ k → k < mC 40 0 → (mC 42 (2 * k) = mM 43 k ∧ 0 ≤ mM 43 k ∧ mM 43 k < ng) ∧ (mC 42 (2 * k + 1) = mM 44 k ∧ 0 ≤ mM 44 k ∧ mM 44 k < ng)
def RI (mC mM : zM) : Prop := mC 52 1 = mM 0 76 ∧ 0 ≤ mC 52 1 ∧ mC 52 1 ≤ 160 ∧ ∀ k, 0 ≤ k → k < mC 52 1 → mC 53 k = mM 52 k
def RR (rc rm : Int → Int) : Prop := ∀ k, 0 ≤ k → k < 6 → rc k = rm k
def RO (oc : Int → Int) : Prop := ∀ k : Nat, k < 30 → oc (k : Int) = OWNC.getD k 0
/-- all but the states -/
def RS (mC mM : zM) (z : Nat) : Prop := RT (mC 3) (mC 2 1) (mM 1) (mM 0 1) ∧ (mC 1 1 = mM 0 10 ∧ mC 1 2 = mM 0 11) ∧ RZ mC mM z ∧ RL mC mM (zv mC z 0 1) ∧ RI mC mM ∧ RR (mC 54) (mM 26) ∧ (mC 0 16 = mM 0 58 ∧ 0 ≤ mC 0 16 ∧ mC 0 16 ≤ 2147483647) ∧ RO (mC 7)
/-- what can be undone -/
def RU (mC mM : zM) (z : Nat) : Prop := (mC 0 14 = mM 0 56 ∧ 0 ≤ mC 0 14 ∧ mC 0 14 ≤ 19) ∧ (mC 0 15 = mM 0 57 ∧ 0 ≤ mC 0 15 ∧ mC 0 15 ≤ 20) ∧ ∀ k, 0 ≤ k → k < mC 0 15 → SM (zv mC z) (sv mC (89 + 8 * ((mC 0 14 + k) % 20).toNat)) mM (2 + (mC 0 14 + k) % 20)
/-- what the class's object and the model's have in common -/
def Rel (mC mM : zM) : Prop := ∃ z : Nat, RS mC mM z ∧ SM (zv mC z) (sv mC 8) mM 0 ∧ RU mC mM z
theorem sv_cong {m m' : zM} {o o' : Nat} {i : Int} : ∀ k, m' (o' + k) i = m (o + k) i → sv m' o' k i = sv m o k i := by
  intro k h
  match k, h with
  | 0, h => show (if _ then m' o' i else 0) = (if _ then m o i else 0); rw [show m' o' i = m o i from h]
  | 1, h => show (if _ then m' (o' + 1) i else 0) = (if _ then m (o + 1) i else 0); rw [h]
  | 2, h => show (if _ then m' (o' + 2) i else 0) = (if _ then m (o + 2) i else 0); rw [h]
  | 3, h => show (if _ then m' (o' + 3) i else 0) = (if _ then m (o + 3) i else 0); rw [h]
  | 4, h => show (if _ then m' (o' + 4) i else 0) = (if _ then m (o + 4) i else 0); rw [h]
  | 5, h => show (if _ then m' (o' + 5) i else 0) = (if _ then m (o + 5) i else 0); rw [h]
  | 6, h => show (if _ then m' (o' + 6) i else 0) = (if _ then m (o + 6) i else 0); rw [h]
  | 7, h => show (if _ then m' (o' + 7) i else 0) = (if _ then m (o + 7) i else 0); rw [h]
  | n + 8, h => rfl
theorem sv_eq {m m' : zM} {o : Nat} (h : ∀ k, k ≤ 7 → m' (o + k) = m (o + k)) : sv m' o = sv m o := by
  funext k i
  by_cases q : k ≤ 7
  · exact sv_cong k (by rw [h k q])
  · obtain ⟨n, rfl⟩ : ∃ n, k = n + 8 := ⟨k - 8, by omega⟩
    rfl
theorem sv_upm {m : zM} {o a : Nat} {j v : Int} (h : a < o ∨ o + 7 < a) : sv (upm m a j v) o = sv m o := sv_eq fun k q => upm_ne (by omega)
theorem zv_eq {m m' : zM} {z : Nat} (h : ∀ k, k ≤ 15 → k ≠ 13 → m' (z + k) = m (z + k)) : zv m' z = zv m z := by
  funext k
  unfold zv
  by_cases q : k ≤ 15 ∧ k ≠ 13
  · rw [if_pos q, if_pos q, h k q.1 q.2]
  · rw [if_neg q, if_neg q]
theorem zv_upm {m : zM} {z a : Nat} {j v : Int} (h : a < z ∨ a = z + 13 ∨ z + 15 < a) : zv (upm m a j v) z = zv m z := zv_eq fun k q1 q2 => upm_ne (by omega)
theorem zv_at {m : zM} {z k : Nat} (h : k ≤ 15 ∧ k ≠ 13) : zv m z k = m (z + k) := if_pos h
theorem sv_ext {m m' : zM} {o o' : Nat} (h0 : m' o' 0 = m o 0) (h1 : m' o' 1 = m o 1) (h2 : m' o' 2 = m o 2) (h3 : m' o' 10 = m o 10) (h4 : m' o' 11 = m o 11) (a1 : ∀ j, 0 ≤ j → j < 24 → m' (o' + 1) j = m (o + 1) j) (a2 : ∀ j, 0 ≤ j → j < 8 → m' (o' + 2) j = m (o + 2) j) (a3 : ∀ j, 0 ≤ j → j < 8 → m' (o' + 3) j = m (o + 3) j) (a4 : ∀ j, 0 ≤ j → j < 18 → m' (o' + 4) j = m (o + 4) j) (a5 : ∀ j, 0 ≤ j → j < 48 → m' (o' + 5) j = m (o + 5) j) (a6 : ∀ j, 0 ≤ j → j < 48 → m' (o' + 6) j = m (o + 6) j) (a7 : ∀ j, 0 ≤ j → j < 60 → m' (o' + 7) j = m (o + 7) j) : sv m' o' = sv m o := by
  have E : ∀ (P : Int → Prop) (dp : ∀ j, Decidable (P j)) (a b : Nat), (∀ j, P j → m' a j = m b j) → ∀ j, (if P j then m' a j else 0) = (if P j then m b j else 0) := by
    intro P dp a b h j
    by_cases q : P j
    · rw [if_pos q, if_pos q, h j q]
    · rw [if_neg q, if_neg q]
  funext k i
  match k with
  | 0 => exact E (fun j => j = 0 ∨ j = 1 ∨ j = 2 ∨ j = 10 ∨ j = 11) _ o' o (fun j q => by rcases q with e | e | e | e | e <;> subst e <;> assumption) i
  | 1 => exact E (fun j => 0 ≤ j ∧ j < 24) _ (o' + 1) (o + 1) (fun j q => a1 j q.1 q.2) i
  | 2 => exact E (fun j => 0 ≤ j ∧ j < 8) _ (o' + 2) (o + 2) (fun j q => a2 j q.1 q.2) i
  | 3 => exact E (fun j => 0 ≤ j ∧ j < 8) _ (o' + 3) (o + 3) (fun j q => a3 j q.1 q.2) i
  | 4 => exact E (fun j => 0 ≤ j ∧ j < 18) _ (o' + 4) (o + 4) (fun j q => a4 j q.1 q.2) i
  | 5 => exact E (fun j => 0 ≤ j ∧ j < 48) _ (o' + 5) (o + 5) (fun j q => a5 j q.1 q.2) i
  | 6 => exact E (fun j => 0 ≤ j ∧ j < 48) _ (o' + 6) (o + 6) (fun j q => a6 j q.1 q.2) i
  | 7 => exact E (fun j => 0 ≤ j ∧ j < 60) _ (o' + 7) (o + 7) (fun j q => a7 j q.1 q.2) i
  | n + 8 => rfl
theorem sv_1 {m : zM} {o : Nat} {j : Int} (h0 : 0 ≤ j) (h1 : j < 24) : sv m o 1 j = m (o + 1) j := if_pos ⟨h0, h1⟩
theorem sv_2 {m : zM} {o : Nat} {j : Int} (h0 : 0 ≤ j) (h1 : j < 8) : sv m o 2 j = m (o + 2) j := if_pos ⟨h0, h1⟩
theorem sv_3 {m : zM} {o : Nat} {j : Int} (h0 : 0 ≤ j) (h1 : j < 8) : sv m o 3 j = m (o + 3) j := if_pos ⟨h0, h1⟩
theorem sv_4 {m : zM} {o : Nat} {j : Int} (h0 : 0 ≤ j) (h1 : j < 18) : sv m o 4 j = m (o + 4) j := if_pos ⟨h0, h1⟩
theorem sv_5 {m : zM} {o : Nat} {j : Int} (h0 : 0 ≤ j) (h1 : j < 48) : sv m o 5 j = m (o + 5) j := if_pos ⟨h0, h1⟩
theorem sv_6 {m : zM} {o : Nat} {j : Int} (h0 : 0 ≤ j) (h1 : j < 48) : sv m o 6 j = m (o + 6) j := if_pos ⟨h0, h1⟩
theorem sv_7 {m : zM} {o : Nat} {j : Int} (h0 : 0 ≤ j) (h1 : j < 60) : sv m o 7 j = m (o + 7) j := if_pos ⟨h0, h1⟩
theorem sv_0_0 {m : zM} {o : Nat} : sv m o 0 0 = m o 0 := rfl
theorem sv_0_1 {m : zM} {o : Nat} : sv m o 0 1 = m o 1 := rfl
theorem sv_0_2 {m : zM} {o : Nat} : sv m o 0 2 = m o 2 := rfl
theorem sv_0_10 {m : zM} {o : Nat} : sv m o 0 10 = m o 10 := rfl
theorem sv_0_11 {m : zM} {o : Nat} : sv m o 0 11 = m o 11 := rfl
theorem sv_w1 {m : zM} {o : Nat} {j v : Int} (h0 : 0 ≤ j) (h1 : j < 24) : sv (upm m (o + 1) j v) o = upm (sv m o) 1 j v := by
  funext q i
  by_cases hk : q = 1
  · subst hk
    rw [upm_eq]
    show (if 0 ≤ i ∧ i < 24 then upm m (o + 1) j v (o + 1) i else 0) = sets (sv m o 1) j v i
    rw [upm_eq]
    unfold sets
    by_cases e : i = j
    · subst e
      rw [if_pos ⟨h0, h1⟩, if_pos rfl, if_pos rfl]
    · rw [if_neg e, if_neg e]
      rfl
  · rw [upm_ne hk]
    exact sv_cong q (by rw [upm_ne (by omega)])
theorem sv_w2 {m : zM} {o : Nat} {j v : Int} (h0 : 0 ≤ j) (h1 : j < 8) : sv (upm m (o + 2) j v) o = upm (sv m o) 2 j v := by
  funext q i
  by_cases hk : q = 2
  · subst hk
    rw [upm_eq]
    show (if 0 ≤ i ∧ i < 8 then upm m (o + 2) j v (o + 2) i else 0) = sets (sv m o 2) j v i
    rw [upm_eq]
    unfold sets
    by_cases e : i = j
    · subst e
      rw [if_pos ⟨h0, h1⟩, if_pos rfl, if_pos rfl]
    · rw [if_neg e, if_neg e]
      rfl
  · rw [upm_ne hk]
    exact sv_cong q (by rw [upm_ne (by omega)])
theorem sv_w3 {m : zM} {o : Nat} {j v : Int} (h0 : 0 ≤ j) (h1 : j < 8) : sv (upm m (o + 3) j v) o = upm (sv m o) 3 j v := by
  funext q i
  by_cases hk : q = 3
  · subst hk
    rw [upm_eq]
    show (if 0 ≤ i ∧ i < 8 then upm m (o + 3) j v (o + 3) i else 0) = sets (sv m o 3) j v i
    rw [upm_eq]
    unfold sets
    by_cases e : i = j
    · subst e
      rw [if_pos ⟨h0, h1⟩, if_pos rfl, if_pos rfl]
    · rw [if_neg e, if_neg e]
      rfl
  · rw [upm_ne hk]
    exact sv_cong q (by rw [upm_ne (by omega)])
theorem sv_w4 {m : zM} {o : Nat} {j v : Int} (h0 : 0 ≤ j) (h1 : j < 18) : sv (upm m (o + 4) j v) o = upm (sv m o) 4 j v := by
  funext q i
  by_cases hk : q = 4
  · subst hk
    rw [upm_eq]
    show (if 0 ≤ i ∧ i < 18 then upm m (o + 4) j v (o + 4) i else 0) = sets (sv m o 4) j v i
    rw [upm_eq]
    unfold sets
    by_cases e : i = j
    · subst e
      rw [if_pos ⟨h0, h1⟩, if_pos rfl, if_pos rfl]
    · rw [if_neg e, if_neg e]
      rfl
  · rw [upm_ne hk]
    exact sv_cong q (by rw [upm_ne (by omega)])
theorem sv_w5 {m : zM} {o : Nat} {j v : Int} (h0 : 0 ≤ j) (h1 : j < 48) : sv (upm m (o + 5) j v) o = upm (sv m o) 5 j v := by
  funext q i
  by_cases hk : q = 5
  · subst hk
    rw [upm_eq]
    show (if 0 ≤ i ∧ i < 48 then upm m (o + 5) j v (o + 5) i else 0) = sets (sv m o 5) j v i
    rw [upm_eq]
    unfold sets
    by_cases e : i = j
    · subst e
      rw [if_pos ⟨h0, h1⟩, if_pos rfl, if_pos rfl]
    · rw [if_neg e, if_neg e]
      rfl
  · rw [upm_ne hk]
    exact sv_cong q (by rw [upm_ne (by omega)])
theorem sv_w6 {m : zM} {o : Nat} {j v : Int} (h0 : 0 ≤ j) (h1 : j < 48) : sv (upm m (o + 6) j v) o = upm (sv m o) 6 j v := by
  funext q i
  by_cases hk : q = 6
  · subst hk
    rw [upm_eq]
    show (if 0 ≤ i ∧ i < 48 then upm m (o + 6) j v (o + 6) i else 0) = sets (sv m o 6) j v i
    rw [upm_eq]
    unfold sets
    by_cases e : i = j
    · subst e
      rw [if_pos ⟨h0, h1⟩, if_pos rfl, if_pos rfl]
    · rw [if_neg e, if_neg e]
      rfl
  · rw [upm_ne hk]
    exact sv_cong q (by rw [upm_ne (by omega)])
theorem sv_w7 {m : zM} {o : Nat} {j v : Int} (h0 : 0 ≤ j) (h1 : j < 60) : sv (upm m (o + 7) j v) o = upm (sv m o) 7 j v := by
  funext q i
  by_cases hk : q = 7
  · subst hk
    rw [upm_eq]
    show (if 0 ≤ i ∧ i < 60 then upm m (o + 7) j v (o + 7) i else 0) = sets (sv m o 7) j v i
    rw [upm_eq]
    unfold sets
    by_cases e : i = j
    · subst e
      rw [if_pos ⟨h0, h1⟩, if_pos rfl, if_pos rfl]
    · rw [if_neg e, if_neg e]
      rfl
  · rw [upm_ne hk]
    exact sv_cong q (by rw [upm_ne (by omega)])
theorem sv_w0 {m : zM} {o : Nat} {j v : Int} (h : j = 0 ∨ j = 1 ∨ j = 2 ∨ j = 10 ∨ j = 11) : sv (upm m o j v) o = upm (sv m o) 0 j v := by
  funext q i
  by_cases hk : q = 0
  · subst hk
    rw [upm_eq]
    show (if i = 0 ∨ i = 1 ∨ i = 2 ∨ i = 10 ∨ i = 11 then upm m o j v o i else 0) = sets (sv m o 0) j v i
    rw [upm_eq]
    unfold sets
    by_cases e : i = j
    · subst e
      rw [if_pos h, if_pos rfl, if_pos rfl]
    · rw [if_neg e, if_neg e]
      rfl
  · rw [upm_ne hk]
    exact sv_cong q (by rw [upm_ne (by omega)])
