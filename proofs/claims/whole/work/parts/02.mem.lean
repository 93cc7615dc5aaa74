/-! the memory: cell id, slot or index, value as Int; Java's ints and longs as Int, wrapped -/
abbrev zM : Type := Nat → Int → Int
def wI (x : Int) : Int := (x + 2147483648) % 4294967296 - 2147483648
def wL (x : Int) : Int := (x + 9223372036854775808) % 18446744073709551616 - 9223372036854775808
def cI (x : Int) : Prop := -2147483648 ≤ x ∧ x < 2147483648
def cL (x : Int) : Prop := -9223372036854775808 ≤ x ∧ x < 9223372036854775808
def dvI (x y : Int) : Int := (Int32.ofInt x / Int32.ofInt y).toInt
def rmI (x y : Int) : Int := (Int32.ofInt x - Int32.ofInt x / Int32.ofInt y * Int32.ofInt y).toInt
def anI (x y : Int) : Int := (Int32.ofInt x &&& Int32.ofInt y).toInt
def orI (x y : Int) : Int := (Int32.ofInt x ||| Int32.ofInt y).toInt
def xoI (x y : Int) : Int := (Int32.ofInt x ^^^ Int32.ofInt y).toInt
def slI (x y : Int) : Int := (Int32.ofInt x <<< (Int32.ofInt y &&& 31)).toInt
def srI (x y : Int) : Int := (Int32.ofInt x >>> (Int32.ofInt y &&& 31)).toInt
def usI (x y : Int) : Int := ((Int32.ofInt x).toUInt32 >>> ((Int32.ofInt y).toUInt32 &&& Int32.toUInt32 31)).toInt32.toInt
def dvL (x y : Int) : Int := (Int64.ofInt x / Int64.ofInt y).toInt
def rmL (x y : Int) : Int := (Int64.ofInt x - Int64.ofInt x / Int64.ofInt y * Int64.ofInt y).toInt
def anL (x y : Int) : Int := (Int64.ofInt x &&& Int64.ofInt y).toInt
def orL (x y : Int) : Int := (Int64.ofInt x ||| Int64.ofInt y).toInt
def slL (x y : Int) : Int := (Int64.ofInt x <<< ((Int32.ofInt y).toInt64 &&& 63)).toInt
def srL (x y : Int) : Int := (Int64.ofInt x >>> ((Int32.ofInt y).toInt64 &&& 63)).toInt
def sets (f : Int → Int) (i v : Int) : Int → Int := fun j => if j = i then v else f j
def upm (m : zM) (a : Nat) (i v : Int) : zM := fun b => if b = a then sets (m a) i v else m b
def cpy (f g : Int → Int) (i j n : Int) : Int → Int := fun q => if j ≤ q ∧ q < j + n then f (i + (q - j)) else g q
def cpm (m : zM) (a : Nat) (i : Int) (b : Nat) (j n : Int) : zM := fun c => if c = b then cpy (m a) (m b) i j n else m c
def rd {α : Type} (a n : Nat) (i : Int) (m : zM) (k : Int → Option α) : Option α := if 0 ≤ i ∧ i < (n : Int) then k (m a i) else none
def wr {α : Type} (a n : Nat) (i v : Int) (m : zM) (k : zM → Option α) : Option α := if 0 ≤ i ∧ i < (n : Int) then k (upm m a i v) else none
def pf {α : Type} (a : Nat) (i v : Int) (m : zM) (k : zM → Option α) : Option α := k (upm m a i v)
def nz {α : Type} (y : Int) (k : Option α) : Option α := if y = 0 then none else k
def ac {α : Type} (a na : Nat) (i : Int) (b nb : Nat) (j n : Int) (m : zM) (k : zM → Option α) : Option α := if 0 ≤ n ∧ 0 ≤ i ∧ i + n ≤ (na : Int) ∧ 0 ≤ j ∧ j + n ≤ (nb : Int) then k (cpm m a i b j n) else none
theorem sets_eq {f : Int → Int} {i v : Int} : sets f i v i = v := if_pos rfl
theorem sets_ne {f : Int → Int} {i v j : Int} (h : j ≠ i) : sets f i v j = f j := if_neg h
theorem upm_eq {m : zM} {a : Nat} {i v : Int} : upm m a i v a = sets (m a) i v := if_pos rfl
theorem upm_ne {m : zM} {a b : Nat} {i v : Int} (h : b ≠ a) : upm m a i v b = m b := if_neg h
theorem wI_c (x : Int) : cI (wI x) := by unfold cI wI; omega
theorem wL_c (x : Int) : cL (wL x) := by unfold cL wL; omega
theorem wI_id {x : Int} (h : cI x) : wI x = x := by unfold cI at h; unfold wI; omega
theorem wL_id {x : Int} (h : cL x) : wL x = x := by unfold cL at h; unfold wL; omega
theorem cI_L {x : Int} (h : cI x) : cL x := by unfold cI at h; unfold cL; omega
theorem oI_wI (x : Int) : Int32.ofInt (wI x) = Int32.ofInt x := by
  rw [Int32.ofInt_eq_iff_bmod_eq_toInt, Int32.toInt_ofInt]
  unfold wI
  show Int.bmod _ 4294967296 = Int.bmod _ 4294967296
  rw [Int.bmod_def, Int.bmod_def]
  omega
theorem oL_wL (x : Int) : Int64.ofInt (wL x) = Int64.ofInt x := by
  rw [Int64.ofInt_eq_iff_bmod_eq_toInt, Int64.toInt_ofInt]
  unfold wL
  show Int.bmod _ 18446744073709551616 = Int.bmod _ 18446744073709551616
  rw [Int.bmod_def, Int.bmod_def]
  omega
theorem tI_oI {x : Int} (h : cI x) : (Int32.ofInt x).toInt = x := Int32.toInt_ofInt_of_le h.1 h.2
theorem tL_oL {x : Int} (h : cL x) : (Int64.ofInt x).toInt = x := Int64.toInt_ofInt_of_le h.1 h.2
theorem cI_t (x : Int32) : cI x.toInt := ⟨x.le_toInt, x.toInt_lt⟩
theorem cL_t (x : Int64) : cL x.toInt := ⟨x.le_toInt, x.toInt_lt⟩
theorem iadd_v (x y : Int) : Int32.ofInt x + Int32.ofInt y = Int32.ofInt (wI (x + y)) := by rw [oI_wI, Int32.ofInt_add]
theorem isub_v (x y : Int) : Int32.ofInt x - Int32.ofInt y = Int32.ofInt (wI (x - y)) := by rw [oI_wI, Int32.ofInt_sub]
theorem imul_v (x y : Int) : Int32.ofInt x * Int32.ofInt y = Int32.ofInt (wI (x * y)) := by rw [oI_wI, Int32.ofInt_mul]
theorem ineg_v (x : Int) : -Int32.ofInt x = Int32.ofInt (wI (-x)) := by rw [oI_wI, Int32.ofInt_neg]
theorem ladd_v (x y : Int) : Int64.ofInt x + Int64.ofInt y = Int64.ofInt (wL (x + y)) := by rw [oL_wL, Int64.ofInt_add]
theorem lsub_v (x y : Int) : Int64.ofInt x - Int64.ofInt y = Int64.ofInt (wL (x - y)) := by rw [oL_wL, Int64.ofInt_sub]
theorem lmul_v (x y : Int) : Int64.ofInt x * Int64.ofInt y = Int64.ofInt (wL (x * y)) := by rw [oL_wL, Int64.ofInt_mul]
theorem iany_v (z : Int32) : z = Int32.ofInt z.toInt := (Int32.ofInt_toInt z).symm
theorem lany_v (z : Int64) : z = Int64.ofInt z.toInt := (Int64.ofInt_toInt z).symm
theorem i2l_v {x : Int} (h : cI x) : (Int32.ofInt x).toInt64 = Int64.ofInt x := Int32.toInt64_ofInt h.1 (by have := h.2; show x ≤ 2147483647; omega)
theorem l2i_v {x : Int} (h : cL x) : (Int64.ofInt x).toInt32 = Int32.ofInt (wI x) := by
  rw [oI_wI, Int64.toInt32_ofInt]
theorem ilt_v {x y : Int} (hx : cI x) (hy : cI y) : Int32.ofInt x < Int32.ofInt y ↔ x < y := by rw [Int32.lt_iff_toInt_lt, tI_oI hx, tI_oI hy]
theorem ile_v {x y : Int} (hx : cI x) (hy : cI y) : Int32.ofInt x ≤ Int32.ofInt y ↔ x ≤ y := by rw [Int32.le_iff_toInt_le, tI_oI hx, tI_oI hy]
theorem ieq_v {x y : Int} (hx : cI x) (hy : cI y) : Int32.ofInt x = Int32.ofInt y ↔ x = y := by rw [← Int32.toInt_inj, tI_oI hx, tI_oI hy]
theorem llt_v {x y : Int} (hx : cL x) (hy : cL y) : Int64.ofInt x < Int64.ofInt y ↔ x < y := by rw [Int64.lt_iff_toInt_lt, tL_oL hx, tL_oL hy]
theorem leq_v {x y : Int} (hx : cL x) (hy : cL y) : Int64.ofInt x = Int64.ofInt y ↔ x = y := by rw [← Int64.toInt_inj, tL_oL hx, tL_oL hy]
theorem c0I : cI 0 := by unfold cI; omega
/-- a reference that may change: cell id and 1; of an object of a class, of an int array -/
def mro {α : Type} (kd : Nat → Nat × Nat) (c : Nat) (x : Int) (k : Nat → Option α) : Option α := if x ≠ 0 ∧ kd (x - 1).toNat = (0, c) then k (x - 1).toNat else none
def mra {α : Type} (kd : Nat → Nat × Nat) (x : Int) (k : Nat → Nat → Option α) : Option α := if x ≠ 0 ∧ (kd (x - 1).toNat).1 = 1 then k (x - 1).toNat (kd (x - 1).toNat).2 else none
/-- an element of an array of references: its place must be there -/
def gi {α : Type} (n : Nat) (i : Int) (k : Option α) : Option α := if 0 ≤ i ∧ i < (n : Int) then k else none
def lt {α β : Type} (x : α) (k : α → β) : β := k x
