/-! the layer: worlds by ids, the judgement GoAt, a row an instruction -/
abbrev mI (x : Int) : Value := .int (Int32.ofInt x)
abbrev mL (x : Int) : Value := .long (Int64.ofInt x)
abbrev zR : Type := Nat × Int × zM
abbrev zK : Type := (Program × Launch × Env × Room × State) × (MethodId × Array Value × List Frame × Method × Code) × (va_G × (Nat → ClassId) × Nat) × (Nat → Nat × Nat) × Nat
def zfv (B id ci : Nat) (f : Int → Int) (k : Nat) : Value := match slT ci k with
  | 0 => .int (Int32.ofInt (f k))
  | 1 => .long (Int64.ofInt (f k))
  | 2 => if f k = 0 then .null else .ref (B + (id + offs ci k))
  | 4 => .int (Int32.ofInt (f k))
  | _ => if f k = 0 then .null else .ref (B + (f k - 1).toNat)
def zent (B : Nat) (aC : Nat → ClassId) (id : Nat) (s : Nat × Nat) (f : Int → Int) : va_E := match s.1 with
  | 0 => .inr (s.2, (List.range (nF s.2)).map (zfv B id s.2 f))
  | 1 => .inl (aC 1, s.2, .inl (fun j => Int32.ofInt (f j)))
  | 2 => .inl (aC 2, s.2, .inr (.inl (fun j => Int64.ofInt (f j))))
  | 3 => .inl (aC 3, s.2, .inl (fun j => Int32.ofInt (f j)))
  | 4 => .inl (aC 4, s.2, .inr (.inr (.inr (.inr (fun j => if f j = 0 then none else some (B + (89 + 8 * j)))))))
  | _ => .inl (aC 5, s.2, .inr (.inr (.inr (.inr (fun j => if f j = 0 then none else some (B + (id + 1 + j)))))))
def zws (kd : Nat → Nat × Nat) (N B : Nat) (aC : Nat → ClassId) (m : zM) : va_W := (List.range N).map (fun id => (B + id, zent B aC id (kd id) (m id)))
def ztys (aC : Nat → ClassId) : List (ClassId × FieldType) := [(aC 1, .int), (aC 2, .long), (aC 3, .boolean), (aC 4, .object "BeastsChoose$State"), (aC 5, .array .int)]
def zA (N B : Nat) : Nat → Prop := fun q => B ≤ q ∧ q < B + N
def zty (s : Nat × Nat) (i : Int) : Nat := match s.1 with
  | 0 => if 0 ≤ i then slT s.2 i.toNat else 0
  | 2 => 1
  | 3 => 4
  | 4 => if 0 ≤ i ∧ i < (s.2 : Int) then 2 else 0
  | 5 => if 0 ≤ i ∧ i < (s.2 : Int) then 2 else 0
  | _ => 0
def zok (t : Nat) (x : Int) : Prop := match t with
  | 1 => cL x
  | 2 => x = 1
  | 4 => x = 0 ∨ x = 1
  | _ => cI x
def zG (kd : Nat → Nat × Nat) (m : zM) : Prop := ∀ (id : Nat) (i : Int), zok (zty (kd id) i) (m id i)
def zrv (ρ : zR) : Option Value := match ρ.1 with
  | 0 => some (mI ρ.2.1)
  | 1 => some (mL ρ.2.1)
  | 4 => some (mI ρ.2.1)
  | _ => none
def zRm (d : Nat) : Room := { frames := d, cells := 0, slots := 0, locals := 32 * d }
abbrev kP (K : zK) : Program := K.1.1
abbrev kL (K : zK) : Launch := K.1.2.1
abbrev kE (K : zK) : Env := K.1.2.2.1
abbrev kR (K : zK) : Room := K.1.2.2.2.1
abbrev kS (K : zK) : State := K.1.2.2.2.2
abbrev kMm (K : zK) : MethodId := K.2.1.1
abbrev kAr (K : zK) : Array Value := K.2.1.2.1
abbrev kBe (K : zK) : List Frame := K.2.1.2.2.1
abbrev kMe (K : zK) : Method := K.2.1.2.2.2.1
abbrev kC (K : zK) : Code := K.2.1.2.2.2.2
abbrev kD (K : zK) : va_G := K.2.2.1.1
abbrev kaC (K : zK) : Nat → ClassId := K.2.2.1.2.1
abbrev kB (K : zK) : Nat := K.2.2.1.2.2
abbrev kd (K : zK) : Nat → Nat × Nat := K.2.2.2.1
abbrev kN (K : zK) : Nat := K.2.2.2.2
def NSTL : List (String × Nat × MethodName × String) := [("BeastsChoose", 11, ⟨"BeastsChoose$Parser", "<init>", "()V"⟩, "BeastsChoose"), ("BeastsChoose", 37, ⟨"BeastsChoose$Keeper", "<init>", "()V"⟩, "BeastsChoose"), ("BeastsChoose", 44, ⟨"BeastsChoose$Bringing", "<init>", "()V"⟩, "BeastsChoose"), ("BeastsChoose", 51, ⟨"BeastsChoose$Guesses", "<init>", "()V"⟩, "BeastsChoose"), ("BeastsChoose", 58, ⟨"BeastsChoose$Ring", "<init>", "()V"⟩, "BeastsChoose"), ("BeastsChoose", 65, ⟨"BeastsChoose$Walk", "<init>", "()V"⟩, "BeastsChoose"), ("BeastsChoose", 72, ⟨"BeastsChoose$Image", "<init>", "()V"⟩, "BeastsChoose"), ("BeastsChoose", 83, ⟨"BeastsChoose$Zoo", "<init>", "()V"⟩, "BeastsChoose"), ("BeastsChoose$Zoo", 44, ⟨"BeastsChoose$Formula", "<init>", "()V"⟩, "BeastsChoose"), ("BeastsChoose$Zoo", 77, ⟨"BeastsChoose", "setTriple", "([IIIII)V"⟩, "BeastsChoose"), ("BeastsChoose$Keeper", 165, ⟨"BeastsChoose", "setTriple", "([IIIII)V"⟩, "BeastsChoose"), ("BeastsChoose$Guesses", 56, ⟨"BeastsChoose", "setTriple", "([IIIII)V"⟩, "BeastsChoose")]
def zNw (U : State) : Prop := ∀ q ∈ NSTL, va_Nw (.methodLinkNest q.1 q.2.1 q.2.2.1 q.2.2.2) U
theorem zNw.warm {s U : State} (hW : s.WarmedH U.vm) (h : zNw s) : zNw U := fun q hq => va_Nw.warmM hW (h q hq)
theorem zNw.same {u U : State} (h : u.vm = U.vm) (hZ : zNw u) : zNw U := fun q hq => va_Nw.same rfl h (hZ q hq)
/-- what comes back -/
def zPost (D : va_G) (aC : Nat → ClassId) (B : Nat) (kd : Nat → Nat × Nat) (N : Nat) (ρ : zR) : Array Value → State → Outcome → State → Prop := fun _ st oc t =>
  oc = .returned (zrv ρ) ∧ va_P D vwCl (zws kd N B aC ρ.2.2) t.heap ∧ va_K D vwCl (ztys aC) t ∧ zG kd ρ.2.2 ∧ zok ρ.1 ρ.2.1 ∧ va_F (zA N B) st t
/-- a method's contract: over a world of memory m, the answer and the memory behind it -/
def zMet (l : Launch) (y : MethodName) (cc : ByteArray) (maxL : Nat) (ret : Option FieldType) (d : Nat) (D : va_G) (aC : Nat → ClassId) (B : Nat) (kd : Nat → Nat × Nat) (N : Nat) (As : List Value) (m : zM) (ρ : zR) : Prop :=
  Met l y (Cond.code y cc maxL ret :: TBL) (zRm d) (va_Pc As (fun U => va_P D vwCl (zws kd N B aC m) U.heap ∧ va_K D vwCl (ztys aC) U ∧ zNw U)) (zPost D aC B kd N ρ) 0 0 (zA N B)
def zHp (K : zK) (m : zM) (H : Heap) (locs : List Loc) : Prop := va_P (kD K) vwCl (zws (kd K) (kN K) (kB K) (kaC K) m) H ∧ zG (kd K) m ∧ va_S (zA (kN K) (kB K)) (kS K).heap H locs
def GoAt (K : zK) (m : zM) (lv : List (Nat × Value)) (st : List Value) (pc : Nat) (ρ : zR) : Prop :=
  ∀ (H : Heap) (locs : List Loc) (ls : Array Slot), zHp K m H locs → lv_has ls (kC K).maxLocals lv → W (kP K) (kL K) (kE K) (kR K) (kS K) (kMm K) (kAr K) (kBe K) (kMe K) (kC K) H locs 0 0 (MQ (kBe K) (zPost (kD K) (kaC K) (kB K) (kd K) (kN K) ρ) (kAr K) (kS K) 0 0 (zA (kN K) (kB K))) (F0 (kMm K) pc ls st)
def zOk (K : zK) (kx : Nat → Nat × Nat) (cc : ByteArray) (nL : Nat) (ret : Option FieldType) (own : String) (d : Nat) : Prop :=
  (kP K).tables.exec = Jvm.exec ∧ (kC K).code = cc ∧ (kC K).maxLocals = nL ∧ (kS K).vm.findClass own = some (kMm K).cls ∧ (∀ w ∈ TBL, w.before (kAr K) (kS K) = true) ∧ va_K (kD K) vwCl (ztys (kaC K)) (kS K) ∧ (kMe K).sig.returnType = ret ∧ (kMe K).locks = false ∧ kR K = zRm d ∧ kd K = kx ∧ (∀ id, (kx id).1 ≠ 9 → id < kN K) ∧ zNw (kS K)
/-! worlds -/
theorem zws_get {kd : Nat → Nat × Nat} {N B : Nat} {aC : Nat → ClassId} {m : zM} {id : Nat} (h : id < N) : (zws kd N B aC m)[id]? = some (B + id, zent B aC id (kd id) (m id)) := by
  unfold zws
  rw [List.getElem?_map, List.getElem?_range h]
  rfl
theorem zws_set {kd : Nat → Nat × Nat} {N B : Nat} {aC : Nat → ClassId} {m m1 : zM} {id : Nat} {e : va_E} (h : id < N) (he : zent B aC id (kd id) (m1 id) = e) (ho : ∀ j, j ≠ id → m1 j = m j) : (zws kd N B aC m).set id (B + id, e) = zws kd N B aC m1 := by
  apply List.ext_getElem?
  intro j
  by_cases hj : j = id
  · subst hj
    rw [zws_get h, he, List.getElem?_set_self (by unfold zws; simpa using h)]
  · rw [List.getElem?_set_ne (fun q => hj q.symm)]
    unfold zws
    rw [List.getElem?_map, List.getElem?_map]
    cases hr : (List.range N)[j]? with
    | none => rfl
    | some i =>
      have : i = j := by
        rw [List.getElem?_eq_some_iff] at hr
        obtain ⟨h1, h2⟩ := hr
        rw [List.getElem_range] at h2
        exact h2.symm
      subst this
      simp [ho i hj]
theorem zws_D {kd : Nat → Nat × Nat} {N B : Nat} {aC : Nat → ClassId} {m : zM} : va_D (zA N B) (zws kd N B aC m) := by
  have hg : ∀ (i : Nat) (q : Nat × va_E), (zws kd N B aC m)[i]? = some q → i < N ∧ q.1 = B + i := by
    intro i q h
    have hi : i < N := by
      have := (List.getElem?_eq_some_iff.mp h).1
      unfold zws at this
      simpa using this
    rw [zws_get hi] at h
    cases h
    exact ⟨hi, rfl⟩
  refine ⟨fun i j p q h1 h2 h3 => ?_, fun i q h => ?_⟩
  · have a := (hg i p h1).2
    have b := (hg j q h2).2
    omega
  · obtain ⟨a, b⟩ := hg i q h
    unfold zA
    omega
theorem zent_obj {B : Nat} {aC : Nat → ClassId} {id ci : Nat} {f : Int → Int} {s : Nat × Nat} (h : s = (0, ci)) : zent B aC id s f = .inr (ci, (List.range (nF ci)).map (zfv B id ci f)) := by subst h; rfl
theorem zent_int {B : Nat} {aC : Nat → ClassId} {id n : Nat} {f : Int → Int} {s : Nat × Nat} (h : s = (1, n)) : zent B aC id s f = .inl (aC 1, n, .inl (fun j => Int32.ofInt (f j))) := by subst h; rfl
theorem zent_lng {B : Nat} {aC : Nat → ClassId} {id n : Nat} {f : Int → Int} {s : Nat × Nat} (h : s = (2, n)) : zent B aC id s f = .inl (aC 2, n, .inr (.inl (fun j => Int64.ofInt (f j)))) := by subst h; rfl
theorem zent_boo {B : Nat} {aC : Nat → ClassId} {id n : Nat} {f : Int → Int} {s : Nat × Nat} (h : s = (3, n)) : zent B aC id s f = .inl (aC 3, n, .inl (fun j => Int32.ofInt (f j))) := by subst h; rfl
theorem zfs_get {B id ci : Nat} {f : Int → Int} {k : Nat} (h : k < nF ci) : ((List.range (nF ci)).map (zfv B id ci f))[k]? = some (zfv B id ci f k) := by rw [List.getElem?_map, List.getElem?_range h]; rfl
theorem zfv_ne {B id ci : Nat} {f : Int → Int} {k j : Nat} {v : Int} (h : j ≠ k) : zfv B id ci (sets f k v) j = zfv B id ci f j := by
  have : sets f (k : Int) v (j : Int) = f j := sets_ne (by omega)
  unfold zfv
  rw [this]
theorem zfs_set {B id ci : Nat} {f : Int → Int} {k : Nat} {v : Int} {x : Value} (h : k < nF ci) (hx : zfv B id ci (sets f k v) k = x) : ((List.range (nF ci)).map (zfv B id ci f)).set k x = (List.range (nF ci)).map (zfv B id ci (sets f k v)) := by
  apply List.ext_getElem?
  intro j
  by_cases hj : j = k
  · subst hj
    rw [zfs_get h, hx, List.getElem?_set_self (by simpa using h)]
  · rw [List.getElem?_set_ne (fun q => hj q.symm), List.getElem?_map, List.getElem?_map]
    cases hr : (List.range (nF ci))[j]? with
    | none => rfl
    | some i =>
      have : i = j := by
        rw [List.getElem?_eq_some_iff] at hr
        obtain ⟨h1, h2⟩ := hr
        rw [List.getElem_range] at h2
        exact h2.symm
      subst this
      simp [zfv_ne hj]
theorem zG_up {kd : Nat → Nat × Nat} {m : zM} {a : Nat} {i v : Int} (h : zG kd m) (hv : zok (zty (kd a) i) v) : zG kd (upm m a i v) := by
  intro id j
  by_cases e : id = a
  · subst e
    rw [upm_eq]
    by_cases e2 : j = i
    · subst e2
      rw [sets_eq]
      exact hv
    · rw [sets_ne e2]
      exact h id j
  · rw [upm_ne e]
    exact h id j
theorem vin_of {i : Int} {n : Nat} (hc : cI i) (h0 : 0 ≤ i) (h1 : i < (n : Int)) : vp_in (Int32.ofInt i) n ∧ (Int32.ofInt i).toNatClampNeg = i.toNat := by
  refine ⟨vp_in_iff.mpr ?_, ?_⟩
  · rw [tI_oI hc]
    exact ⟨h0, h1⟩
  · exact Int32.toNatClampNeg_ofInt_of_le hc.1 hc.2
theorem upd_oI {f : Int → Int} {i v : Int} (h0 : 0 ≤ i) : upd (fun j : Nat => Int32.ofInt (f j)) i.toNat (Int32.ofInt v) = fun j : Nat => Int32.ofInt (sets f i v j) := by
  funext j
  unfold upd sets
  by_cases e : j = i.toNat
  · rw [if_pos e, if_pos (by omega)]
  · rw [if_neg e, if_neg (by omega)]
theorem upd_oL {f : Int → Int} {i v : Int} (h0 : 0 ≤ i) : vp_updL (fun j : Nat => Int64.ofInt (f j)) i.toNat (Int64.ofInt v) = fun j : Nat => Int64.ofInt (sets f i v j) := by
  funext j
  unfold vp_updL sets
  by_cases e : j = i.toNat
  · rw [if_pos e, if_pos (by omega)]
  · rw [if_neg e, if_neg (by omega)]
theorem zGI {kd : Nat → Nat × Nat} {m : zM} (h : zG kd m) {a : Nat} {i : Int} {s : Nat × Nat} (hs : kd a = s) (ht : zty s i = 0) : cI (m a i) := by have := h a i; rw [hs, ht] at this; exact this
theorem zGL {kd : Nat → Nat × Nat} {m : zM} (h : zG kd m) {a : Nat} {i : Int} {s : Nat × Nat} (hs : kd a = s) (ht : zty s i = 1) : cL (m a i) := by have := h a i; rw [hs, ht] at this; exact this
theorem zGS {kd : Nat → Nat × Nat} {m : zM} (h : zG kd m) {a : Nat} {i : Int} {s : Nat × Nat} (hs : kd a = s) (ht : zty s i = 2) : m a i = 1 := by have := h a i; rw [hs, ht] at this; exact this
theorem zGR {kd : Nat → Nat × Nat} {m : zM} (h : zG kd m) {a : Nat} {i : Int} {s : Nat × Nat} (hs : kd a = s) (ht : zty s i = 3) : cI (m a i) := by have := h a i; rw [hs, ht] at this; exact this
theorem zGZ {kd : Nat → Nat × Nat} {m : zM} (h : zG kd m) {a : Nat} {i : Int} {s : Nat × Nat} (hs : kd a = s) (ht : zty s i = 4) : zok 4 (m a i) := by have := h a i; rw [hs, ht] at this; exact this
