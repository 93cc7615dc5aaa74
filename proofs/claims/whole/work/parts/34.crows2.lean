def OWNS : String := "beast wakes to at taste guest comes fears likes may ushers bores keeps fee rain suits saw hour looks smell talk liking free if or and not all min max "
def zAA (U : State) : Prop := (Cond.arrayOver (.array .int)).before #[] U = true
theorem zAA.spec {s : State} (h : zAA s) : ∃ comp c k, s.vm.findClass (FieldType.array .int).toString = some comp ∧ (s.vm.classes.findIdx? fun (x : Class) => match x.kind with | .array component _ => component == comp | _ => false) = some c ∧ s.vm.classes[c]? = some k ∧ k.kind = .array comp (.array .int) ∧ s.vm.findClass ("[" ++ (FieldType.array .int).toString) = some c := by
  unfold zAA at h
  simp only [Cond.before, Cond.holds, Cond.value, beq_iff_eq] at h
  cases hc : s.vm.findClass (FieldType.array .int).toString with
  | none => simp [hc] at h
  | some comp =>
    simp only [hc, Option.bind_some, Option.bind_eq_some_iff, Option.map_eq_some_iff] at h
    obtain ⟨c, hi, k, hk, hb⟩ := h
    cases hkk : k.kind with
    | array a ty =>
      simp only [hkk, Bool.and_eq_true, decide_eq_true_eq] at hb
      have ha : a = comp := by
        have := (Array.findIdx?_eq_some_iff_getElem.mp hi).2.1
        obtain ⟨hlt, hp, -⟩ := Array.findIdx?_eq_some_iff_getElem.mp hi
        have hke : s.vm.classes[c] = k := by
          rw [Array.getElem?_eq_getElem hlt] at hk
          exact Option.some.inj hk
        rw [hke, hkk] at hp
        simpa using hp
      subst ha
      exact ⟨a, c, k, rfl, hi, hk, by rw [hkk, hb.1], hb.2⟩
    | _ => simp [hkk] at hb
theorem zAA.moved {u U : State} (hvm : u.vm.Alike U.vm) (h : zAA u) : zAA U := by
  obtain ⟨comp, c, k, h1, h2, h3, h4, h5⟩ := h.spec
  obtain ⟨k', hk', he⟩ := hvm.2.2 _ _ h3
  have hi : (U.vm.classes.findIdx? fun (x : Class) => match x.kind with | .array component _ => component == comp | _ => false) = some c := by
    have e1 := va_idx_bare U.vm comp
    have e2 := va_idx_bare u.vm comp
    have hb : u.vm.bare = U.vm.bare := by first | exact hvm.bare_eq | exact hvm.bare_eq.symm
    rw [hb] at e2
    exact (e1.symm.trans e2).trans h2
  have hkind : k'.kind = .array comp (.array .int) := by rw [he]; exact h4
  have f1 : U.vm.findClass (FieldType.array .int).toString = some comp := by rw [hvm.findClass]; exact h1
  have f2 : U.vm.findClass ("[" ++ (FieldType.array .int).toString) = some c := by rw [hvm.findClass]; exact h5
  unfold zAA Cond.before Cond.holds
  simp only [Cond.value]
  rw [f1, Option.bind_some]
  refine (congrArg (fun o : Option Nat => (o.bind (fun c => (U.vm.classes[c]?).map fun (k : Class) => match k.kind with | .array _ ty => decide (ty = FieldType.array .int) && decide (U.vm.findClass ("[" ++ (FieldType.array .int).toString) = some c) | _ => false) == some true)) hi).trans ?_
  simp [hk', hkind, f2]
/-- what else a constructor of the class needs -/
def zXt (S V B : Nat) (U : State) (H : Heap) : Prop := zStr S V (fun q => B ≤ q) U H ∧ vk_R "BeastsChoose$Tape" 27 OWNS S U ∧ va_AO "BeastsChoose$State" U ∧ zAA U
theorem zXt.warm {S V B : Nat} {s U : State} {H : Heap} (hW : s.WarmedH U.vm) (h : zXt S V B s H) : zXt S V B U H := ⟨h.1.moved hW.alike, h.2.1.warm hW, h.2.2.1.moved hW.alike, h.2.2.2.moved hW.alike⟩
theorem zXt.kept {S V B : Nat} {s : State} {H H1 : Heap} (h : zXt S V B s H) (hq : ∀ a : Nat, a < H.size → ¬ B ≤ a → H1[a]? = H[a]?) : zXt S V B s H1 := ⟨h.1.kept hq, h.2⟩
def zOd (K : zK) (kx : Nat → Nat × Nat) (cc : ByteArray) (nL : Nat) (own : String) (mc ms d S V : Nat) : Prop := zOc K kx cc nL own mc ms d ∧ zXt S V (kB K) (kS K) (kS K).heap
def zPc (D : va_G) (aC : Nat → ClassId) (B : Nat) (kx : Nat → Nat × Nat) (n : Nat) (m : zM) : Array Value → State → Outcome → State → Prop := fun _ st oc t =>
  oc = .returned none ∧ va_P D vwCl (zws kx n B aC m) t.heap ∧ (∀ id, n ≤ id → m id = fun _ => 0) ∧ va_F (fun q => B ≤ q) st t
def zCt (l : Launch) (y : MethodName) (cc : ByteArray) (maxL d mc ms : Nat) (D : va_G) (aC : Nat → ClassId) (B : Nat) (kx : Nat → Nat × Nat) (o n : Nat) (m m1 : zM) (S V : Nat) : Prop :=
  Met l y (Cond.code y cc maxL none :: TBL) { frames := d, cells := mc, slots := ms, locals := 32 * d } (va_Pc [.ref (B + o)] (fun U => va_P D vwCl (zws kx (o + 1) B aC m) U.heap ∧ U.heap.size = B + (o + 1) ∧ va_K D vwCl (ztys aC) U ∧ zNw U ∧ zXt S V B U U.heap)) (zPc D aC B kx n m1) mc ms (fun q => B ≤ q)
theorem zCt.of {l : Launch} {y : MethodName} {cc : ByteArray} {maxL d mc ms na : Nat} {D : va_G} {aC : Nat → ClassId} {B : Nat} {kx : Nat → Nat × Nat} {o n : Nat} {m m1 : zM} {S V : Nat} (hf : zMf y cc maxL none na) (hi : y.name = "<init>") (hl1 : 1 ≤ maxL) (hz : ∀ id, o + 1 ≤ id → m id = fun _ => 0)
    (body : ∀ K : zK, kL K = l → kD K = D → kaC K = aC → kB K = B → zOd K kx cc maxL y.cls mc ms d S V → GoW K (zHc K (o + 1) 0 m) 0 0 (MQ (kBe K) (zPc D aC B kx n m1) (kAr K) (kS K) mc ms (fun q => B ≤ q)) [(0, .ref (B + o))] [] 0) : zCt l y cc maxL d mc ms D aC B kx o n m m1 S V := by
  refine Met.ofWF (cc := cc) (maxL := maxL) (ret := none) hf.2.2.2.2 rfl ?_
  intro p e s mm args below meth c s₁ Bd hml hv
  obtain ⟨rfl, hP, hsz, hKs, hNw, hX⟩ := hv
  have hts := atoms_spec (ws := Cond.code y cc maxL none :: TBL) Bd.pre
  let K : zK := ((p, l, e, { frames := d, cells := mc, slots := ms, locals := 32 * d }, s), (mm, [Value.ref (B + o)].toArray, below, meth, c), (D, aC, B), kx, n)
  have hin : meth.name = "<init>" := by rw [(name_of_methodNamed Bd.named Bd.method).1]; exact hi
  have ok : zOd K kx cc maxL y.cls mc ms d S V := ⟨⟨⟨Bd.exec, Bd.bytes, hml, findClass_of_methodNamed Bd.named, fun w hw => hts w (List.mem_cons_of_mem _ hw), trivial⟩, hKs, Bd.returns, Bd.notSynchronized, rfl, rfl, hin, hNw, by show B ≤ s.heap.size; omega⟩, hX⟩
  have G := body K rfl rfl rfl rfl ok
  rw [lg_entry_eq]
  exact G s.heap [] _ ⟨hP, ⟨by omega, by show s.heap.size + 0 = B + (o + 1); omega⟩, hz, va_S.rf⟩ (by show lv_has _ c.maxLocals _; rw [hml]; exact lv_entry [Value.ref (B + o)] hl1)
section CR2
variable {K : zK} {kx : Nat → Nat × Nat} {Hp : Heap → List Loc → Prop} {n cs sl S V : Nat} {m : zM} {Q : State → Prop} {lv : List (Nat × Value)} {st : List Value} {pc nx tgt : Nat} {cc : ByteArray} {nL mc ms d : Nat} {own : String}
theorem gc_return (hk : zOc K kx cc nL own mc ms d) (hd : zdec cc pc (.return_) 1 nx) : GoW K (zHc K n mc m) mc ms (MQ (kBe K) (zPc (kD K) (kaC K) (kB K) kx n m) (kAr K) (kS K) mc ms (fun q => kB K ≤ q)) lv [] pc := by
  intro H locs ls hH hv
  have hlocks : (kMe K).locks = false := hk.2.2.2.1
  obtain ⟨hP, hsz, hz0, hS⟩ := hH
  rw [hk.kde] at hP
  exact W.vret hk.1.1 hk.1.2.1 hk.2.2.1 (fun t ht _ => ⟨rfl, by rw [ht]; exact hP, hz0, hS.F ht⟩) hS.2.2 hd.1 hlocks
theorem z_runC {p : Program} {l : Launch} {e : Env} {R : Room} {s : State} {mm : MethodId} {args : Array Value} {below : List Frame} {meth : Method} {c : Code} {H : Heap} {locs : List Loc} {cs sl mc ms : Nat} {Q : State → Prop} {ls : Array Slot} {rest st0 : List Value} {a : Array Value} {D : va_G} {aC : Nat → ClassId} {B n : Nat} {kx : Nat → Nat × Nat} {m1 : zM}
    (hr : va_Run p l e R s mm args below meth c H locs cs sl mc ms (F0 mm pc ls st0) rest (zPc D aC B kx n m1 a) (fun q => B ≤ q)) (hS : va_S (fun q => B ≤ q) s.heap H locs)
    (kk : ∀ (H1 : Heap) (locs1 : List Loc), va_P D vwCl (zws kx n B aC m1) H1 → (∀ id, n ≤ id → m1 id = fun _ => 0) → va_S (fun q => B ≤ q) s.heap H1 locs1 → W p l e R s mm args below meth c H1 locs1 (cs + mc) (sl + ms) Q (F0 mm (pc + 3) ls rest)) : W p l e R s mm args below meth c H locs cs sl Q (F0 mm pc ls st0) := by
  intro T hT X
  obtain ⟨v, st₀, t, T', L, h0, X', hL, e1, e2, ⟨hv, hP, hz, hF1, hF2⟩, sts⟩ := hr T hT X
  cases hv
  rw [h0] at hF1 hF2
  obtain ⟨t2, a1, b1⟩ := kk T'.heap (locs ++ L) (by rw [e1]; exact hP) hz ⟨Nat.le_trans hS.1 (by rw [e1]; exact hF1), fun q h1 h2 => by rw [e1, hF2 q (Nat.lt_of_lt_of_le h1 hS.1) h2]; exact hS.2.1 q h1 h2, fun q hq => by
      rcases List.mem_append.mp hq with h | h
      · exact hS.2.2 q h
      · exact hL q h⟩ T' rfl X'
  exact ⟨t2, sts t2 a1, b1⟩
theorem zCt_blind {o : Nat} {D : va_G} {aC : Nat → ClassId} {B : Nat} : FrameBlind (va_Pc [.ref (B + o)] (fun U => va_P D vwCl (zws kx (o + 1) B aC m) U.heap ∧ U.heap.size = B + (o + 1) ∧ va_K D vwCl (ztys aC) U ∧ zNw U ∧ zXt S V B U U.heap)) := fun a U g mk q => by
  obtain ⟨q0, qP, qs, qK, qN, qX⟩ := q
  exact ⟨q0, qP, qs, va_K.moved (u := U) (U := U.calling g mk a) (Vm.Alike.refl U.vm) qK, qN.same rfl, ⟨qX.1.moved (U := U.calling g mk a) (Vm.Alike.refl U.vm), qX.2.1.same rfl, va_AO.moved (U := U.calling g mk a) (Vm.Alike.refl U.vm) qX.2.2.1, zAA.moved (U := U.calling g mk a) (Vm.Alike.refl U.vm) qX.2.2.2⟩⟩
theorem gc_pre (hk : zOd K kx cc nL own mc ms d S V) {o : Nat} {H : Heap} {locs : List Loc} (hH : zHc K (o + 1) cs m H locs) (hsz : H.size ≤ (kS K).heap.size + cs) : ∀ U : State, U.heap = H → (kS K).WarmedH U.vm → va_Pc [.ref (kB K + o)] (fun U => va_P (kD K) vwCl (zws kx (o + 1) (kB K) (kaC K) m) U.heap ∧ U.heap.size = kB K + (o + 1) ∧ va_K (kD K) vwCl (ztys (kaC K)) U ∧ zNw U ∧ zXt S V (kB K) U U.heap) (Value.ref (kB K + o) :: []).toArray U := by
  intro U hU hW
  obtain ⟨hP, ⟨hn1, hcs⟩, hz0, hS⟩ := hH
  rw [hk.1.kde] at hP
  have h2 := zP_size hP hn1
  refine ⟨rfl, by rw [hU]; exact hP, by rw [hU]; omega, va_K.moved hW.alike hk.1.2.1, hk.1.2.2.2.2.2.2.2.1.warm hW, ?_⟩
  rw [hU]
  exact (hk.2.kept (fun a h1 h3 => hS.2.1 a h1 h3)).warm hW
theorem gc_initS (hk : zOd K kx cc nL own mc ms d S V) {y : MethodName} {cy : ByteArray} {ml dy mc' ms' o ix na : Nat} {m1 : zM} (hf : zMf y cy ml none na) (hn0 : na = 0) (hi : y.name = "<init>") (hw : Cond.methodLink own ix y ∈ TBL) (hw2 : Cond.instanceMethod y ∈ TBL) (hdd : dy < d) (hsum : (st.map fun v => v.category).sum ≤ 8) (hc : cs + mc' ≤ mc) (hs : sl + ms' ≤ ms) (hnn : n = o + 1 + mc') (hd : zdec cc pc (.invokespecial ix) 3 nx) (hM : (∀ id, o + 1 ≤ id → m id = fun _ => 0) → zCt (kL K) y cy ml dy mc' ms' (kD K) (kaC K) (kB K) kx o n m m1 S V) (kk : GoW K (zHc K n (cs + mc') m1) (cs + mc') (sl + ms') Q lv st nx) : GoW K (zHc K (o + 1) cs m) cs sl Q lv (.ref (kB K + o) :: st) pc := by
  obtain ⟨hd, rfl⟩ := hd
  obtain ⟨hini, hcd, hdy, hl13, -⟩ := hf
  intro H locs ls hH hv
  refine W.sz (fun hsz => ?_)
  have hRe := hk.1.r
  have hts := hk.1.1.2.2.2.2.1
  have cw := callB_of (R := kR K) (own := own) (index := ix) (mc := mc') (ms := ms') (rm := { frames := dy, cells := mc', slots := ms', locals := 32 * dy }) na hts (goodInTBL hcd) rfl rfl rfl (hts _ hini) (hts _ hw) hdy ⟨by rw [hRe]; exact hdd, by rw [hRe]; show 8 + (ml + 11) + 32 * dy ≤ 32 * d; omega⟩
  refine z_runC (va_runI (g := F0 (kMm K) pc ls (.ref (kB K + o) :: st)) (As := []) (rest := st) ⟨hk.1.1.1, hk.1.1.2.1, rfl, hk.1.1.2.2.2.1, hts⟩ (hM hH.2.2.1) ⟨cw, hi, hts _ hw2⟩ ⟨zCt_blind, gc_pre hk hH hsz⟩ rfl (by rw [hn0]; rfl) hv.1 rfl (lv_room hsum) hd ⟨by rw [hRe]; exact hc, by rw [hRe]; exact hs⟩) hH.2.2.2 (fun H1 locs1 hP1 hz1 hS1 => ?_)
  exact kk H1 locs1 ls ⟨by rw [hk.1.kde]; exact hP1, ⟨by omega, by have := hH.2.1.2; omega⟩, hz1, hS1⟩ hv
theorem gc_initN (hk : zOd K kx cc nL own mc ms d S V) {y : MethodName} {cy : ByteArray} {ml dy mc' ms' o ix na : Nat} {host : String} {m1 : zM} (hf : zMf y cy ml none na) (hn0 : na = 0) (hi : y.name = "<init>") (hw : (own, ix, y, host) ∈ NSTL) (hw2 : Cond.instanceMethod y ∈ TBL) (hdd : dy < d) (hsum : (st.map fun v => v.category).sum ≤ 8) (hc : cs + mc' ≤ mc) (hs : sl + ms' ≤ ms) (hnn : n = o + 1 + mc') (hd : zdec cc pc (.invokespecial ix) 3 nx) (hM : (∀ id, o + 1 ≤ id → m id = fun _ => 0) → zCt (kL K) y cy ml dy mc' ms' (kD K) (kaC K) (kB K) kx o n m m1 S V) (kk : GoW K (zHc K n (cs + mc') m1) (cs + mc') (sl + ms') Q lv st nx) : GoW K (zHc K (o + 1) cs m) cs sl Q lv (.ref (kB K + o) :: st) pc := by
  obtain ⟨hd, rfl⟩ := hd
  obtain ⟨hini, hcd, hdy, hl13, -⟩ := hf
  intro H locs ls hH hv
  refine W.sz (fun hsz => ?_)
  have hRe := hk.1.r
  have hts := hk.1.1.2.2.2.2.1
  have cw := va_cnB (R := kR K) (own := own) (host := host) (index := ix) (mc := mc') (ms := ms') (rm := { frames := dy, cells := mc', slots := ms', locals := 32 * dy }) na hts (goodInTBL hcd) rfl rfl rfl (hk.1.2.2.2.2.2.2.2.1 _ hw) (hts _ hini) hdy ⟨by rw [hRe]; exact hdd, by rw [hRe]; show 8 + (ml + 11) + 32 * dy ≤ 32 * d; omega⟩
  refine z_runC (va_runIN (g := F0 (kMm K) pc ls (.ref (kB K + o) :: st)) (As := []) (rest := st) ⟨hk.1.1.1, hk.1.1.2.1, rfl, hk.1.1.2.2.2.1, hts⟩ (hM hH.2.2.1) ⟨cw, hi, hts _ hw2⟩ ⟨zCt_blind, gc_pre hk hH hsz⟩ rfl (by rw [hn0]; rfl) hv.1 rfl (lv_room hsum) hd ⟨by rw [hRe]; exact hc, by rw [hRe]; exact hs⟩) hH.2.2.2 (fun H1 locs1 hP1 hz1 hS1 => ?_)
  exact kk H1 locs1 ls ⟨by rw [hk.1.kde]; exact hP1, ⟨by omega, by have := hH.2.1.2; omega⟩, hz1, hS1⟩ hv
/-! the String constant -/
theorem gc_ldcS (hk : zOd K kx cc nL "BeastsChoose$Tape" mc ms d S V) (hd : zdec cc pc (.ldc 27) 2 nx) (kk : GoW K Hp cs sl Q lv (.ref S :: st) nx) : GoW K Hp cs sl Q lv st pc := by
  obtain ⟨hd, rfl⟩ := hd
  intro H locs ls hH hv
  exact va_ldcS hk.1.1.1 hk.1.1.2.1 hk.1.1.2.2.2.1 hk.2.2.1 hd (kk H locs ls hH hv)
theorem gc_jcall (hk : zOd K kx cc nL own mc ms d S V) {y : MethodName} {cy : ByteArray} {ml dy na ix : Nat} {ry : Option FieldType} {As : List Value} {w : Option Value} {st0 : List Value} (hf : zMf y cy ml ry na) (hw : Cond.methodLink own ix y ∈ TBL) (hw2 : Cond.instanceMethod y ∈ TBL) (hw3 : Cond.selects "java/lang/String" y y ∈ TBL) (hdd : dy < d) (hn : As.length = na) (hsum : (st.map fun v => v.category).sum ≤ 8) (hst : As.reverse ++ .ref S :: st = st0) (hd : zdec cc pc (.invokevirtual ix) 3 nx) (hM : jMet (kL K) y cy ml ry dy (.ref S :: As) S V (fun q => kB K ≤ q) w) (hcs : cs ≤ mc) (hsl : sl ≤ ms) (kk : GoW K (zHc K n cs m) cs sl Q lv (w.toList ++ st) nx) : GoW K (zHc K n cs m) cs sl Q lv st0 pc := by
  obtain ⟨hd, rfl⟩ := hd
  obtain ⟨hi, hc, hdy, hl13, -⟩ := hf
  intro H locs ls hH hv
  have hRe := hk.1.r
  have hts := hk.1.1.2.2.2.2.1
  have cw := callB_of (R := kR K) (own := own) (index := ix) (mc := 0) (ms := 0) (rm := zRm dy) na hts (goodInTBL hc) rfl rfl rfl (hts _ hi) (hts _ hw) hdy ⟨by rw [hRe]; exact hdd, by rw [hRe]; show 8 + (ml + 11) + 32 * dy ≤ 32 * d; omega⟩
  have hX := hk.2.1.kept (fun a h1 h3 => hH.2.2.2.2.1 a h1 h3)
  obtain ⟨cell, o1, o2, o3, -⟩ := hX.1
  exact j_run (va_runV (g := F0 (kMm K) pc ls st0) (As := As) (rest := st) (C := "java/lang/String") ⟨hk.1.1.1, hk.1.1.2.1, rfl, hk.1.1.2.2.2.1, hts⟩ hM ⟨cw, hts _ hw2, hts _ hw3⟩ ⟨j_blind, ⟨cell, o1, o2, o3⟩, fun U hU hW => ⟨rfl, by show zStr S V _ U U.heap; rw [hU]; exact hX.moved hW.alike⟩⟩ rfl hn hv.1 hst.symm (lv_room hsum) hd ⟨by rw [hRe]; exact hcs, by rw [hRe]; exact hsl⟩) (kk H locs ls hH hv)
/-! arrays of references -/
theorem gc_anewa (hk : zOd K kx cc nL own mc ms d S V) {N ix : Nat} {x : Int} (hw : Cond.classLink own ix "BeastsChoose$State" ∈ TBL) (hx : x = (N : Int)) (hN : N < 100000) (hkn : kx n = (4, N)) (hc : cs + 1 ≤ mc) (hs : sl + N ≤ ms) (hd : zdec cc pc (.anewarray ix) 3 nx) (kk : GoW K (zHc K (n + 1) (cs + 1) m) (cs + 1) (sl + N) Q lv (.ref (kB K + n) :: st) nx) : GoW K (zHc K n cs m) cs sl Q lv (mI x :: st) pc := by
  obtain ⟨hd, rfl⟩ := hd
  intro H locs ls hH hv
  obtain ⟨hP, ⟨hn1, hcs⟩, hz0, hS⟩ := hH
  refine W.sz (fun hsz0 => ?_)
  have hsz : H.size = kB K + n := Nat.le_antisymm (by omega) (zP_size hP hn1)
  have hts := hk.1.1.2.2.2.2.1
  subst hx
  have hcN : cI (N : Int) := by unfold cI; omega
  have hNn : (Int32.ofInt (N : Int)).toNatClampNeg = N := by rw [Int32.toNatClampNeg_ofInt_of_le hcN.1 hcN.2]; omega
  refine W.anew hk.1.1.1 hk.1.1.2.1 hk.1.1.2.2.2.1 (hts _ hw) (va_AO.use hk.2.2.2.1) rfl hd rfl (n := Int32.ofInt (N : Int)) (by rw [show (0 : Int32) = Int32.ofInt 0 from rfl, ilt_v hcN c0I]; omega) (by rw [hNn]; omega) (by rw [hk.1.r]; exact hc) (by rw [hk.1.r, hNn]; exact hs) (fun cA kA comp f1 f2 f3 f4 => ?_)
  rw [hNn]
  have hcA : cA = kaC K 4 := by
    obtain ⟨_, _, _, _, _, h3⟩ := (hk.1.2.1.2 3 _ rfl).2
    exact Option.some.inj (f1.symm.trans h3)
  generalize hH1 : H.push ({ cls := cA, slots := Array.replicate N .null, vm := .none } : Cell) = H1
  have z1 : H1.size = H.size + 1 := by rw [← hH1, Array.size_push]
  have e1 : H1[H.size]? = some (arrV cA N (fun _ => .null)) := by rw [← hH1, Array.getElem?_push_size, ← arrV_new]
  have o1 : ∀ q : Nat, q < H.size → H1[q]? = H[q]? := fun q hq => by rw [← hH1, Array.getElem?_push, if_neg (Nat.ne_of_lt hq)]
  rw [hsz]
  refine kk H1 locs ls ⟨?_, ⟨by omega, by omega⟩, fun id h => hz0 id (by omega), ⟨Nat.le_trans hS.1 (by omega), fun q h1 h2 => by rw [o1 q (by have := hS.1; omega)]; exact hS.2.1 q h1 h2, hS.2.2⟩⟩ hv
  refine zP_push hP o1 ?_
  rw [hz0 n (Nat.le_refl n), hk.1.kde, hkn, zent_rf4 rfl]
  show H1[kB K + n]? = some (vp_cell _ _)
  rw [← hsz, e1, vp_cell_q, hcA]
  rfl
end CR2
