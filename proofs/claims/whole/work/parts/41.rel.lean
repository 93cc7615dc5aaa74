/-! the relation between the class's memory and the model's -/
/-- names: the class has one number of six digits to the base 27, the model bytes in a long -/
def nmw (l : List Int) : Int := l.foldl (fun w c => w * 256 + (c + 96)) 0
def nmc : List Int → Nat → Int
  | _, 0 => 0
  | [], n + 1 => 0 * 27 ^ n + nmc [] n
  | c :: l, n + 1 => c * 27 ^ n + nmc l n
def nmR (x w : Int) : Prop := ∃ l : List Int, 1 ≤ l.length ∧ l.length ≤ 6 ∧ (∀ c ∈ l, 1 ≤ c ∧ c ≤ 26) ∧ w = nmw l ∧ x = nmc l 6
/-- codes of a formula: the class packs, the model has a sort and a value -/
def crel (c s v : Int) : Prop := (c % 256 = 1 ∧ 0 ≤ c ∧ ((s = 0 ∧ v = c / 256 ∧ c / 256 ≤ 9999) ∨ (s = 30 ∧ c / 256 = 1))) ∨ (c % 256 = 2 ∧ 0 ≤ c ∧ s = c / 256 + 1 ∧ c / 256 ≤ 8) ∨ (c = 3 ∧ s = 36) ∨ (c = 4 ∧ s = 37) ∨ (c = 5 ∧ s = 44) ∨ (c = 6 ∧ s = 43) ∨ (c = 7 ∧ s = 41) ∨ (c = 8 ∧ s = 42) ∨ (c = 43 ∧ s = 31) ∨ (c = 45 ∧ s = 32) ∨ (c = 42 ∧ s = 33) ∨ (c = 47 ∧ s = 34) ∨ (c = 37 ∧ s = 35) ∨ (c = 60 ∧ s = 38) ∨ (c = 62 ∧ s = 39) ∨ (c = 61 ∧ s = 40)
/-- types on the stack: true a TEST, false a SUM -/
def tst (s : Int) (T : List Bool) : Option (List Bool) :=
  if 0 ≤ s ∧ s ≤ 9 then some (false :: T)
  else if s = 30 then some (true :: T)
  else if 31 ≤ s ∧ s ≤ 37 then (match T with | false :: false :: R => some (false :: R) | _ => none)
  else if 38 ≤ s ∧ s ≤ 40 then (match T with | false :: false :: R => some (true :: R) | _ => none)
  else if s = 41 ∨ s = 42 then (match T with | true :: true :: R => some (true :: R) | _ => none)
  else if s = 43 then (match T with | true :: R => some (true :: R) | _ => none)
  else if s = 44 then (match T with | false :: false :: true :: R => some (false :: R) | _ => none)
  else none
def tyS (so : Int → Int) : Nat → Option (List Bool)
  | 0 => some []
  | n + 1 => (tyS so n).bind (tst (so n))
/-- a formula: told or not; its codes; well typed, of small depth -/
def FR (len : Int) (cd : Int → Int) (mM : zM) (b w : Int) (t : Bool) (mx : Int) : Prop :=
  (len = 0 ∧ mM 13 (2 * b + w) = -1) ∨
  (0 < len ∧ 0 ≤ mM 13 (2 * b + w) ∧ mM 14 (2 * b + w) = mM 13 (2 * b + w) + len ∧ mM 13 (2 * b + w) + len ≤ 1600 ∧
    (∀ j, 0 ≤ j → j < len → crel (cd j) (mM 15 (1600 * b + mM 13 (2 * b + w) + j)) (mM 16 (1600 * b + mM 13 (2 * b + w) + j)) ∧ (mM 15 (1600 * b + mM 13 (2 * b + w) + j) ≤ mx ∨ 30 ≤ mM 15 (1600 * b + mM 13 (2 * b + w) + j))) ∧
    tyS (fun j => mM 15 (1600 * b + mM 13 (2 * b + w) + j)) len.toNat = some [t] ∧
    ∀ (j : Nat) (T : List Bool), (j : Int) ≤ len → tyS (fun j => mM 15 (1600 * b + mM 13 (2 * b + w) + j)) j = some T → T.length ≤ 41)
/-- a zoo, in the class's layout, beside a bank of the model -/
def ZM (Z mM : zM) (b : Int) : Prop :=
  (mM 2 b = Z 0 0 ∧ 0 ≤ Z 0 0 ∧ Z 0 0 ≤ 6) ∧ (mM 7 b = Z 0 1 ∧ 0 ≤ Z 0 1 ∧ Z 0 1 ≤ 8) ∧
  (∀ i, 0 ≤ i → i < Z 0 0 → (mM 3 (6 * b + i) = Z 2 i ∧ mM 4 (6 * b + i) = Z 3 i ∧ mM 5 (6 * b + i) = Z 4 i) ∧ (0 ≤ Z 2 i ∧ Z 2 i ≤ Z 3 i ∧ Z 3 i ≤ 23 ∧ 0 ≤ Z 4 i ∧ Z 4 i ≤ 99) ∧ nmR (Z 1 i) (mM 17 (6 * b + i)) ∧ ∀ k, 0 ≤ k → k < 3 → mM 6 (18 * b + 3 * i + k) = Z 5 (3 * i + k) ∧ 0 ≤ Z 5 (3 * i + k) ∧ Z 5 (3 * i + k) ≤ 9) ∧
  (∀ g, 0 ≤ g → g < Z 0 1 → (mM 9 (8 * b + g) = Z 7 g ∧ mM 10 (8 * b + g) = Z 8 g ∧ mM 11 (8 * b + g) = Z 9 g) ∧ (0 ≤ Z 7 g ∧ Z 7 g ≤ Z 8 g ∧ Z 8 g ≤ 23 ∧ 0 ≤ Z 9 g ∧ Z 9 g < 2 ^ (Z 0 0).toNat) ∧ nmR (Z 6 g) (mM 18 (8 * b + g)) ∧ ∀ k, 0 ≤ k → k < 3 → mM 8 (24 * b + 3 * g + k) = Z 10 (3 * g + k) ∧ 0 ≤ Z 10 (3 * g + k) ∧ Z 10 (3 * g + k) ≤ 9) ∧
  (mM 12 (5 * b) = Z 0 14 ∧ 0 ≤ Z 0 14 ∧ Z 0 14 ≤ 6) ∧ (mM 12 (5 * b + 1) = Z 0 15 ∧ 0 ≤ Z 0 15 ∧ Z 0 15 ≤ 99) ∧ (mM 12 (5 * b + 2) = Z 0 16 ∧ 2 ≤ Z 0 16 ∧ Z 0 16 ≤ 9) ∧ (mM 12 (5 * b + 3) = Z 0 17 ∧ 0 ≤ Z 0 17 ∧ Z 0 17 ≤ 99) ∧ (mM 12 (5 * b + 4) = Z 0 18 ∧ 0 ≤ Z 0 18 ∧ Z 0 18 ≤ 100) ∧
  FR (Z 11 1) (Z 12) mM b 0 false 6 ∧ FR (Z 14 1) (Z 15) mM b 1 true 9
/-- a state, in the class's layout, beside a layer of the model; Z for its numbers -/
def SM (Z S mM : zM) (v : Int) : Prop :=
  (mM 27 v = 24 * S 0 0 + S 0 1 ∧ 0 ≤ S 0 0 ∧ S 0 0 ≤ 999 ∧ 0 ≤ S 0 1 ∧ S 0 1 ≤ 23) ∧ (mM 28 v = S 0 2 ∧ 0 ≤ S 0 2 ∧ S 0 2 ≤ 9999) ∧
  (∀ g, 0 ≤ g → g < Z 0 1 → (∀ k, 0 ≤ k → k < 3 → mM 29 (24 * v + 3 * g + k) = S 1 (3 * g + k) ∧ 0 ≤ S 1 (3 * g + k) ∧ S 1 (3 * g + k) ≤ 9) ∧ (mM 30 (8 * v + g) = S 2 g ∧ -1 ≤ S 2 g ∧ S 2 g < Z 0 0) ∧ (mM 31 (8 * v + g) = S 3 g ∧ 0 ≤ S 3 g ∧ S 3 g < 2 ^ (Z 0 0).toNat)) ∧
  (∀ i, 0 ≤ i → i < Z 0 0 → (∀ k, 0 ≤ k → k < 3 → mM 32 (18 * v + 3 * i + k) = S 4 (3 * i + k) ∧ 0 ≤ S 4 (3 * i + k) ∧ S 4 (3 * i + k) ≤ 9) ∧ ∀ g, 0 ≤ g → g < Z 0 1 → (mM 33 (48 * v + 8 * i + g) = S 5 (8 * i + g) ∧ 0 ≤ S 5 (8 * i + g) ∧ S 5 (8 * i + g) ≤ 99) ∧ (mM 34 (48 * v + 8 * i + g) = S 6 (8 * i + g) ∧ 0 ≤ S 6 (8 * i + g) ∧ S 6 (8 * i + g) ≤ 99)) ∧
  (mM 35 v = S 0 11 ∧ 0 ≤ S 0 11 ∧ S 0 11 ≤ 60 ∧ 0 ≤ S 0 10 ∧ S 0 10 ≤ 59) ∧
  (∀ k, 0 ≤ k → k < S 0 11 → ∃ dy hr bb gg ot : Int, (0 ≤ dy ∧ dy ≤ 999 ∧ 0 ≤ hr ∧ hr ≤ 23 ∧ 0 ≤ bb ∧ bb < 6 ∧ 0 ≤ gg ∧ gg < 8 ∧ 0 ≤ ot ∧ ot ≤ 3) ∧ S 7 ((S 0 10 + k) % 60) = (((24 * dy + hr) * 6 + bb) * 8 + gg) * 4 + ot ∧ mM 36 (300 * v + 5 * k) = dy ∧ mM 36 (300 * v + 5 * k + 1) = hr ∧ mM 36 (300 * v + 5 * k + 2) = bb ∧ mM 36 (300 * v + 5 * k + 3) = gg ∧ mM 36 (300 * v + 5 * k + 4) = ot)
/-- the view of a group of cells from id z on -/
def vw (m : zM) (z : Nat) : zM := fun k => m (z + k)
def RT (tb : Int → Int) (tl : Int) (ub : Int → Int) (ul : Int) : Prop := tl = ul ∧ 0 ≤ tl ∧ tl ≤ 1600 ∧ ∀ i, 0 ≤ i → i < tl → tb i = ub i ∧ 0 ≤ tb i ∧ tb i ≤ 255
def OWNC : List Int := [31389093, 330776973, 294949755, 24977727, 287898273, 111715416, 51278373, 88783965, 177190524, 187559307, 311586040, 37027881, 160605774, 88849062, 258999120, 283981734, 273613383, 123189336, 180462276, 279645453, 287753796, 177193312, 95761440, 132328809, 224799543, 21867813, 209249973, 20962395, 191594322, 187539624]
def RZ (mC mM : zM) (z : Nat) : Prop := (z = 55 ∨ z = 72) ∧ mC 0 12 = (z : Int) + 1 ∧ mC 0 13 = 128 - (z : Int) ∧ (mM 0 13 = 0 ∨ mM 0 13 = 1) ∧ ZM (vw mC z) mM (mM 0 13)
def RU (mC mM : zM) (z : Nat) : Prop := mC 0 14 = mM 0 56 ∧ 0 ≤ mC 0 14 ∧ mC 0 14 ≤ 19 ∧ mC 0 15 = mM 0 57 ∧ 0 ≤ mC 0 15 ∧ mC 0 15 ≤ 20 ∧ ∀ k, 0 ≤ k → k < mC 0 15 → SM (vw mC z) (vw mC (89 + 8 * ((mC 0 14 + k) % 20).toNat)) mM (2 + (mC 0 14 + k) % 20)
def RL (mC mM : zM) (ng : Int) : Prop := mC 40 0 = mM 0 65 ∧ 0 ≤ mC 40 0 ∧ mC 40 0 ≤ 16 ∧ ∀ k, 0 ≤ k → k < mC 40 0 → (mC 42 (2 * k) = mM 43 k ∧ 0 ≤ mM 43 k ∧ mM 43 k < ng) ∧ (mC 42 (2 * k + 1) = mM 44 k ∧ 0 ≤ mM 44 k ∧ mM 44 k < ng)
def RI (mC mM : zM) : Prop := mC 52 1 = mM 0 76 ∧ 0 ≤ mC 52 1 ∧ mC 52 1 ≤ 160 ∧ ∀ k, 0 ≤ k → k < mC 52 1 → mC 53 k = mM 52 k
def RR (rc rm : Int → Int) : Prop := ∀ k, 0 ≤ k → k < 6 → rc k = rm k
def RO (oc : Int → Int) : Prop := ∀ k : Nat, k < 30 → oc (k : Int) = OWNC.getD k 0
/-- what the class's object and the model's have in common -/
def Rel (mC mM : zM) : Prop := ∃ z : Nat, RT (mC 3) (mC 2 1) (mM 1) (mM 0 1) ∧ (mC 1 1 = mM 0 10 ∧ mC 1 2 = mM 0 11) ∧ RZ mC mM z ∧ SM (vw mC z) (vw mC 8) mM 0 ∧ RU mC mM z ∧ RL mC mM (vw mC z 0 1) ∧ RI mC mM ∧ RR (mC 54) (mM 26) ∧ (mC 0 16 = mM 0 58 ∧ 0 ≤ mC 0 16) ∧ RO (mC 7)
theorem FR.congr {len : Int} {cd : Int → Int} {mM mM' : zM} {b w : Int} {t : Bool} {mx : Int} (h : FR len cd mM b w t mx) (h13 : mM' 13 = mM 13) (h14 : mM' 14 = mM 14) (h15 : mM' 15 = mM 15) (h16 : mM' 16 = mM 16) : FR len cd mM' b w t mx := by
  unfold FR at *
  rw [h13, h14, h15, h16]
  exact h
theorem ZM.congr {Z Z' mM mM' : zM} {b : Int} (h : ZM Z mM b) (hZ : ∀ k, k ≤ 15 → k ≠ 13 → Z' k = Z k) (hM : ∀ a, 2 ≤ a → a ≤ 18 → mM' a = mM a) : ZM Z' mM' b := by
  obtain ⟨a1, a2, a3, a4, a5, a6, a7, a8, a9, f1, f2⟩ := h
  have F1 := f1.congr (hM 13 (by omega) (by omega)) (hM 14 (by omega) (by omega)) (hM 15 (by omega) (by omega)) (hM 16 (by omega) (by omega))
  have F2 := f2.congr (hM 13 (by omega) (by omega)) (hM 14 (by omega) (by omega)) (hM 15 (by omega) (by omega)) (hM 16 (by omega) (by omega))
  unfold ZM
  simp only [hZ 0 (by omega) (by omega), hZ 1 (by omega) (by omega), hZ 2 (by omega) (by omega), hZ 3 (by omega) (by omega), hZ 4 (by omega) (by omega), hZ 5 (by omega) (by omega), hZ 6 (by omega) (by omega), hZ 7 (by omega) (by omega), hZ 8 (by omega) (by omega), hZ 9 (by omega) (by omega), hZ 10 (by omega) (by omega), hZ 11 (by omega) (by omega), hZ 12 (by omega) (by omega), hZ 14 (by omega) (by omega), hZ 15 (by omega) (by omega), hM 2 (by omega) (by omega), hM 3 (by omega) (by omega), hM 4 (by omega) (by omega), hM 5 (by omega) (by omega), hM 6 (by omega) (by omega), hM 7 (by omega) (by omega), hM 8 (by omega) (by omega), hM 9 (by omega) (by omega), hM 10 (by omega) (by omega), hM 11 (by omega) (by omega), hM 12 (by omega) (by omega), hM 17 (by omega) (by omega), hM 18 (by omega) (by omega)]
  exact ⟨a1, a2, a3, a4, a5, a6, a7, a8, a9, F1, F2⟩
/-- the places of a layer v in the model's rows -/
def lay (a : Nat) : Int := match a with
  | 27 => 1
  | 28 => 1
  | 29 => 24
  | 30 => 8
  | 31 => 8
  | 32 => 18
  | 33 => 48
  | 34 => 48
  | 35 => 1
  | _ => 300
/-- layer v is as it was -/
def sameLay (mM mM' : zM) (v : Int) : Prop := ∀ a, 27 ≤ a → a ≤ 36 → ∀ i, lay a * v ≤ i → i < lay a * v + lay a → mM' a i = mM a i
