/-! weakest preconditions of the pure programs -/
def wp {α : Type} (p : Option α) (Q : α → Prop) : Prop := ∃ r, p = some r ∧ Q r
theorem wp_some {α : Type} {a : α} {Q : α → Prop} (h : Q a) : wp (some a) Q := ⟨a, rfl, h⟩
theorem wp_bind {α β : Type} {p : Option α} {f : α → Option β} {Q : β → Prop} (h : wp p (fun r => wp (f r) Q)) : wp (p.bind f) Q := by
  obtain ⟨r, rfl, h2⟩ := h
  exact h2
theorem wp_be {α β : Type} {p : Option α} {f : α → Option β} {Q : β → Prop} {r : α} (e : p = some r) (h : wp (f r) Q) : wp (p.bind f) Q := by
  subst e
  exact h
theorem wp_mono {α : Type} {p : Option α} {Q Q' : α → Prop} (h : wp p Q) (hq : ∀ r, Q r → Q' r) : wp p Q' := by
  obtain ⟨r, h1, h2⟩ := h
  exact ⟨r, h1, hq r h2⟩
theorem wp_bm {α β : Type} {p : Option α} {f : α → Option β} {Q : β → Prop} {R : α → Prop} (h : wp p R) (hq : ∀ r, R r → wp (f r) Q) : wp (p.bind f) Q := wp_bind (wp_mono h hq)
theorem wp_eq {α : Type} {p : Option α} {a : α} {Q : α → Prop} (e : p = some a) (h : Q a) : wp p Q := ⟨a, e, h⟩
theorem mro_ok {α : Type} {kd : Nat → Nat × Nat} {c z : Nat} {x : Int} {k : Nat → Option α} (hx : x = (z : Int) + 1) (hk : kd z = (0, c)) : mro kd c x k = k z := by
  subst hx
  unfold mro
  rw [show ((z : Int) + 1 - 1).toNat = z from by omega, if_pos ⟨by omega, hk⟩]
theorem mra_ok {α : Type} {kd : Nat → Nat × Nat} {z n : Nat} {x : Int} {k : Nat → Nat → Option α} (hx : x = (z : Int) + 1) (hk : kd z = (1, n)) : mra kd x k = k z n := by
  subst hx
  unfold mra
  rw [show ((z : Int) + 1 - 1).toNat = z from by omega, if_pos ⟨by omega, by rw [hk]⟩, hk]
theorem ru1 {m : zM} {a b : Nat} {i j v : Int} (h : b ≠ a) : upm m a i v b j = m b j := by rw [upm_ne h]
theorem ru2 {m : zM} {a b : Nat} {i j v : Int} (h : j ≠ i) : upm m a i v b j = m b j := by
  by_cases q : b = a
  · subst q
    rw [upm_eq, sets_ne h]
  · rw [upm_ne q]
theorem ru3 {m : zM} {a b : Nat} {i j v : Int} (h : b = a) (h2 : j = i) : upm m a i v b j = v := by
  subst h
  subst h2
  rw [upm_eq, sets_eq]
theorem pf_ok {α : Type} {a : Nat} {i v : Int} {m : zM} {k : zM → Option α} : pf a i v m k = k (upm m a i v) := rfl
theorem lt_ok {α β : Type} {x : α} {k : α → β} : lt x k = k x := rfl
/-- a loop that counts from lo to N -/
theorem wp_for {σ α : Type} (L : Nat → Int → σ → Option α) (I : Int → σ → Prop) (Q : α → Prop) (lo N : Int) (hend : ∀ n s, I N s → wp (L (n + 1) N s) Q) (hstep : ∀ n i s, lo ≤ i → i < N → I i s → (∀ s', I (i + 1) s' → wp (L n (i + 1) s') Q) → wp (L (n + 1) i s) Q) : ∀ (n : Nat) (i : Int) (s : σ), lo ≤ i → i ≤ N → N - i < (n : Int) → I i s → wp (L n i s) Q := by
  intro n
  induction n with
  | zero => intro i s h1 h2 h3; omega
  | succ n ih =>
    intro i s h1 h2 h3 hI
    by_cases e : i = N
    · subst e; exact hend n s hI
    · exact hstep n i s h1 (by omega) hI (fun s' h' => ih (i + 1) s' (by omega) (by omega) (by omega) h')
/-- a memory unlike another one in the cells of l alone -/
def eqO (l : List Nat) (m m' : zM) : Prop := ∀ a, a ∉ l → m' a = m a
theorem eqO.refl {l : List Nat} {m : zM} : eqO l m m := fun _ _ => rfl
theorem eqO.trans {l : List Nat} {m m' m2 : zM} (h : eqO l m m') (h2 : eqO l m' m2) : eqO l m m2 := fun a q => by rw [h2 a q, h a q]
theorem eqO.mono {l l' : List Nat} {m m' : zM} (h : eqO l m m') (hl : ∀ a, a ∈ l → a ∈ l') : eqO l' m m' := fun a q => h a (fun w => q (hl a w))
theorem eqO.put {l : List Nat} {m m' : zM} {a : Nat} {i v : Int} (h : eqO l m m') (ha : a ∈ l) : eqO l m (upm m' a i v) := fun b q => by
  have hb : b ≠ a := fun e => by
    subst e
    exact q ha
  rw [upm_ne hb]
  exact h b q
theorem ediv_le {x y : Int} (h0 : 0 ≤ x) (h1 : 0 < y) : 0 ≤ x / y ∧ x / y ≤ x := ⟨Int.ediv_nonneg h0 (by omega), Int.ediv_le_self y h0⟩
theorem dvI_n {x y : Int} (h0 : 0 ≤ x) (h1 : x < 2147483648) (h2 : 0 < y) (h3 : y < 2147483648) : dvI x y = x / y := by
  unfold dvI
  rw [Int32.toInt_div, tI_oI ⟨by omega, h1⟩, tI_oI ⟨by omega, h3⟩, Int.tdiv_eq_ediv_of_nonneg h0]
  have := ediv_le h0 h2
  generalize x / y = q at *
  show Int.bmod _ 4294967296 = _
  rw [Int.bmod_def]
  omega
theorem rmI_q {x y : Int} : rmI x y = wI (x - wI (dvI x y * y)) := by
  unfold rmI
  rw [iany_v (Int32.ofInt x / Int32.ofInt y)]
  show (Int32.ofInt x - Int32.ofInt (dvI x y) * Int32.ofInt y).toInt = _
  rw [imul_v, isub_v, tI_oI (wI_c _)]
theorem rmI_n {x y : Int} (h0 : 0 ≤ x) (h1 : x < 2147483648) (h2 : 0 < y) (h3 : y < 2147483648) : rmI x y = x % y := by
  rw [rmI_q, dvI_n h0 h1 h2 h3]
  have e := Int.mul_ediv_add_emod x y
  have a1 := Int.emod_nonneg x (show y ≠ 0 by omega)
  have a2 := Int.emod_lt_of_pos x h2
  have a3 : 0 ≤ y * (x / y) := Int.mul_nonneg (by omega) (ediv_le h0 h2).1
  rw [Int.mul_comm (x / y) y]
  generalize y * (x / y) = p at *
  rw [wI_ok (x := p) (by omega) (by omega), wI_ok (by omega) (by omega)]
  omega
theorem tdv_b (a b : Int) : (a.tdiv b * b).natAbs ≤ a.natAbs ∧ (a.tdiv b).natAbs ≤ a.natAbs := by
  rw [Int.natAbs_mul, Int.natAbs_tdiv]
  exact ⟨Nat.div_mul_le_self _ _, Nat.div_le_self _ _⟩
theorem dvI_t {x y : Int} (hx : cI x) (hy : cI y) (h : -2147483648 < x) : dvI x y = x.tdiv y := by
  unfold dvI
  rw [Int32.toInt_div, tI_oI hx, tI_oI hy]
  have := (tdv_b x y).2
  have h2 := hx.2
  generalize x.tdiv y = q at *
  show Int.bmod _ 4294967296 = _
  rw [Int.bmod_def]
  omega
theorem tmd_b (a b : Int) : (a - a.tdiv b * b).natAbs ≤ a.natAbs := by
  have e : a - a.tdiv b * b = a.tmod b := by rw [Int.tmod_def, Int.mul_comm]
  rw [e, Int.natAbs_tmod]
  exact Nat.mod_le _ _
theorem rmI_t {x y : Int} (hx : cI x) (hy : cI y) (h : -2147483648 < x) : rmI x y = x - x.tdiv y * y := by
  rw [rmI_q, dvI_t hx hy h]
  have h1 := (tdv_b x y).1
  have h3 := tmd_b x y
  have h2 := hx.2
  generalize x.tdiv y * y = p at *
  rw [wI_ok (x := p) (by omega) (by omega), wI_ok (by omega) (by omega)]
theorem dvL_t {x y : Int} (hx : cI x) (hy : cI y) : dvL x y = x.tdiv y := by
  unfold dvL
  rw [Int64.toInt_div, tL_oL (cI_L hx), tL_oL (cI_L hy)]
  have := (tdv_b x y).2
  have h1 := hx.1
  have h2 := hx.2
  generalize x.tdiv y = q at *
  show Int.bmod _ 18446744073709551616 = _
  rw [Int.bmod_def]
  omega
theorem rmL_q {x y : Int} : rmL x y = wL (x - wL (dvL x y * y)) := by
  unfold rmL
  rw [lany_v (Int64.ofInt x / Int64.ofInt y)]
  show (Int64.ofInt x - Int64.ofInt (dvL x y) * Int64.ofInt y).toInt = _
  rw [lmul_v, lsub_v, tL_oL (wL_c _)]
theorem rmL_t {x y : Int} (hx : cI x) (hy : cI y) : rmL x y = x - x.tdiv y * y := by
  rw [rmL_q, dvL_t hx hy]
  have h1 := (tdv_b x y).1
  have h3 := tmd_b x y
  have h2 := hx.1
  have h4 := hx.2
  generalize x.tdiv y * y = p at *
  rw [wL_ok (x := p) (by omega) (by omega), wL_ok (by omega) (by omega)]
theorem mul9 {x y a b : Int} (h0 : 0 ≤ x) (h1 : x ≤ a) (h2 : 0 ≤ y) (h3 : y ≤ b) : 0 ≤ x * y ∧ x * y ≤ a * b := ⟨Int.mul_nonneg h0 h2, Int.mul_le_mul h1 h3 h2 (by omega)⟩
theorem mul_ab {x y a b : Int} (h0 : -a ≤ x) (h1 : x ≤ a) (h2 : -b ≤ y) (h3 : y ≤ b) : -(a * b) ≤ x * y ∧ x * y ≤ a * b := by
  have e : (x * y).natAbs ≤ a.natAbs * b.natAbs := by
    rw [Int.natAbs_mul]
    exact Nat.mul_le_mul (by omega) (by omega)
  have e2 : ((a.natAbs * b.natAbs : Nat) : Int) = a * b := by
    rw [Int.natCast_mul, Int.natAbs_of_nonneg (by omega), Int.natAbs_of_nonneg (by omega)]
  omega
/-- signs -/
theorem xoI_neg {x y : Int} (hx : cI x) (hy : cI y) : xoI x y < 0 ↔ ((x < 0 ∧ 0 ≤ y) ∨ (0 ≤ x ∧ y < 0)) := by
  have e : ∀ z : Int, cI z → ((Int32.ofInt z).toBitVec.msb = true ↔ z < 0) := by
    intro z hz
    rw [BitVec.msb_eq_toInt, decide_eq_true_iff]
    show (Int32.ofInt z).toInt < 0 ↔ _
    rw [tI_oI hz]
  have e2 : xoI x y < 0 ↔ (Int32.ofInt x ^^^ Int32.ofInt y).toBitVec.msb = true := by
    rw [BitVec.msb_eq_toInt, decide_eq_true_iff]
    exact Iff.rfl
  rw [e2, Int32.toBitVec_xor, BitVec.msb_xor]
  have a := e x hx
  have b := e y hy
  generalize (Int32.ofInt x).toBitVec.msb = p at *
  generalize (Int32.ofInt y).toBitVec.msb = q at *
  cases p <;> cases q <;> simp at a b ⊢ <;> omega
