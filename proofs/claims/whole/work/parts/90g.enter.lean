/-! the law: its entry -/
theorem inL1 {w : Cond} (i : Nat) (h0 : tables_1_1[i]? = some w) : w ∈ lw_tbl := List.mem_append_right _ (have h := List.mem_of_getElem? h0; List.mem_append_left _ h)
theorem inL2 {w : Cond} (i : Nat) (h0 : tables_1_2[i]? = some w) : w ∈ lw_tbl := List.mem_append_right _ (have h := List.mem_of_getElem? h0; List.mem_append_right _ (List.mem_append_left _ h))
theorem inL3 {w : Cond} (i : Nat) (h0 : tables_1_3[i]? = some w) : w ∈ lw_tbl := List.mem_append_right _ (have h := List.mem_of_getElem? h0; List.mem_append_right _ (List.mem_append_right _ (List.mem_append_left _ h)))
theorem inL5 {w : Cond} (i : Nat) (h0 : tables_1_5[i]? = some w) : w ∈ lw_tbl := List.mem_append_right _ (have h := List.mem_of_getElem? h0; List.mem_append_right _ (List.mem_append_right _ (List.mem_append_right _ (List.mem_append_right _ (List.mem_append_left _ h)))))
theorem nw_all : ∀ q ∈ NSTL, Cond.methodLinkNest q.1 q.2.1 q.2.2.1 q.2.2.2 ∈ lw_tbl := List.forall_mem_cons.mpr ⟨inL1 31 rfl, List.forall_mem_cons.mpr ⟨inL2 1 rfl, List.forall_mem_cons.mpr ⟨inL2 23 rfl, List.forall_mem_cons.mpr ⟨inL2 43 rfl, List.forall_mem_cons.mpr ⟨inL2 68 rfl, List.forall_mem_cons.mpr ⟨inL2 93 rfl, List.forall_mem_cons.mpr ⟨inL2 106 rfl, List.forall_mem_cons.mpr ⟨inL2 130 rfl, List.forall_mem_cons.mpr ⟨inL2 136 rfl, List.forall_mem_cons.mpr ⟨inL3 162 rfl, List.forall_mem_cons.mpr ⟨inL5 15 rfl, List.forall_mem_cons.mpr ⟨inL5 68 rfl, fun _ h => absurd h List.not_mem_nil⟩⟩⟩⟩⟩⟩⟩⟩⟩⟩⟩⟩
theorem zNw_of {s : State} {b : Nat} (hw : ∀ w ∈ lw_tbl, w.before #[Value.ref b] s = true) : zNw s := fun q hq => va_Nw.of rfl (hw _ (nw_all q hq))
section LNEW
variable {K : zK} {H : Heap} {locs : List Loc} {ls : Array Slot} {st : List Value} {cs sl pc : Nat} {Q : State → Prop} {kx : Nat → Nat × Nat}
theorem lw_new (hO : zOw K code 4 "BeastsChooseLaw") (hKs : va_K (kD K) vwCl (ztys (kaC K)) (kS K)) (hRe : kR K = room_1) {ci ix : Nat} {C : String} {T : u_T} (ty : Nat → FieldType) (hcl : vwCl[ci]? = some (C, T, nF ci)) (hin : ∀ w ∈ u_ws C T (nF ci), w ∈ TBL) (hty : ∀ k, k < nF ci → parseFieldDescriptor (T k).2.2.1 = some (ty k)) (hdf : ∀ k, k < nF ci → defaultValue (ty k) = zfv 0 0 ci (fun _ => 0) k) (hw : Cond.classLink "BeastsChooseLaw" ix C ∈ TBL) (hw2 : Cond.instantiable C (nF ci) ∈ TBL) (hw3 : Cond.initialized C ∈ TBL) (hk0 : kx 0 = (0, ci)) (hd : decode code pc = .ok (.new ix, 3)) (hcs : cs + 1 ≤ 600000) (hsl : sl + nF ci ≤ 7302250) (kk : ∀ H1 : Heap, va_P (kD K) vwCl (zws kx 1 H.size (kaC K) z0M) H1 → H1.size = H.size + 1 → (∀ q, q < H.size → H1[q]? = H[q]?) → W (kP K) (kL K) (kE K) (kR K) (kS K) (kMm K) (kAr K) (kBe K) (kMe K) (kC K) H1 locs (cs + 1) (sl + nF ci) Q (F0 (kMm K) (pc + 3) ls (.ref (H.size + 0) :: st))) : W (kP K) (kL K) (kE K) (kR K) (kS K) (kMm K) (kAr K) (kBe K) (kMe K) (kC K) H locs cs sl Q (F0 (kMm K) pc ls st) := by
  have hts := hO.2.2.2.2.1
  have hKn := hKs.1 ci _ hcl
  refine W.newcK hO.1 hO.2.1 hO.2.2.2.1 (hts _ hw) (hts _ hw2) (hts _ hw3) rfl hd (by rw [hRe]; exact hcs) (by rw [hRe]; exact hsl) hKn.2.1 (h := H.size) rfl (fun H1 kC hkC e1 z1 o1 => ?_)
  refine kk H1 (zP_push (n := 0) (m := z0M) (kd := kx) (B := H.size) (aC := kaC K) (D := kD K) (H := H) (fun k q h => by cases h) (fun q hq => o1 q (by omega)) ?_) (by omega) (fun q hq => o1 q (by omega))
  rw [zent_obj hk0, show z0M 0 = fun _ => 0 from rfl]
  refine ⟨_, hcl, (u_born ty hts hin hKn hkC e1 hty).to (fun j hj => ?_)⟩
  show defaultValue (ty j) = vp_V _ j
  rw [hdf j hj]
  unfold vp_V
  rw [List.getD_eq_getElem?_getD, zfs_get hj]
  show zfv 0 0 ci (fun _ => 0) j = zfv H.size 0 ci (fun _ => 0) j
  unfold zfv
  rfl
theorem z_runCL {p : Program} {l : Launch} {e : Env} {R : Room} {s : State} {mm : MethodId} {args : Array Value} {below : List Frame} {meth : Method} {c : Code} {H : Heap} {locs : List Loc} {cs sl mc ms pc : Nat} {Q : State → Prop} {ls : Array Slot} {rest st0 : List Value} {a : Array Value} {D : va_G} {aC : Nat → ClassId} {B n : Nat} {kx : Nat → Nat × Nat} {m1 : zM} {A : Nat → Prop}
    (hr : va_Run p l e R s mm args below meth c H locs cs sl mc ms (F0 mm pc ls st0) rest (zPc D aC B kx n m1 a) (fun q => B ≤ q)) (hA : ∀ q, B ≤ q → A q) (hS : va_S A s.heap H locs)
    (kk : ∀ (H1 : Heap) (locs1 : List Loc), va_P D vwCl (zws kx n B aC m1) H1 → (∀ q, q < H.size → ¬ B ≤ q → H1[q]? = H[q]?) → va_S A s.heap H1 locs1 → W p l e R s mm args below meth c H1 locs1 (cs + mc) (sl + ms) Q (F0 mm (pc + 3) ls rest)) : W p l e R s mm args below meth c H locs cs sl Q (F0 mm pc ls st0) := by
  intro T hT X
  obtain ⟨v, st₀, t, T', L, h0, X', hL, e1, e2, ⟨hv, hP, hz, hF1, hF2⟩, sts⟩ := hr T hT X
  cases hv
  rw [h0] at hF1 hF2
  obtain ⟨t2, a1, b1⟩ := kk T'.heap (locs ++ L) (by rw [e1]; exact hP) (fun q h1 h2 => by rw [e1]; exact hF2 q h1 h2) ⟨Nat.le_trans hS.1 (by rw [e1]; exact hF1), fun q h1 h2 => by rw [e1, hF2 q (Nat.lt_of_lt_of_le h1 hS.1) (fun w => h2 (hA q w))]; exact hS.2.1 q h1 h2, fun q hq => by
      rcases List.mem_append.mp hq with h | h
      · exact hS.2.2 q h
      · exact hA _ (hL q h)⟩ T' rfl X'
  exact ⟨t2, sts t2 a1, b1⟩
theorem lw_init (hO : zOw K code 4 "BeastsChooseLaw") (hKs : va_K (kD K) vwCl (ztys (kaC K)) (kS K)) (hNw : zNw (kS K)) (hRe : kR K = room_1) {y : MethodName} {cy : ByteArray} {ml dy mc' ms' ix B n S V : Nat} {m1 : zM} {lv : List (Nat × Value)} (hf : zMf y cy ml none 0) (hi : y.name = "<init>") (hw : Cond.methodLink "BeastsChooseLaw" ix y ∈ TBL) (hw2 : Cond.instanceMethod y ∈ TBL) (hdd : dy ≤ 2000) (hsum : (st.map fun v => v.category).sum ≤ 8) (hc : cs + mc' ≤ 600000) (hs : sl + ms' ≤ 7302250) (hd : decode code pc = .ok (.invokespecial ix, 3)) (hM : zCt (kL K) y cy ml dy mc' ms' (kD K) (kaC K) B kx 0 n z0M m1 S V) (hP : va_P (kD K) vwCl (zws kx 1 B (kaC K) z0M) H) (hsz : H.size = B + 1) (hB : (kS K).heap.size ≤ B) (hXt : zXt S V (kS K).heap.size (kS K) (kS K).heap) (hS : va_S (fun q => (kS K).heap.size ≤ q) (kS K).heap H locs) (hv : lv_has ls (kC K).maxLocals lv) (kk : ∀ (H1 : Heap) (locs1 : List Loc), va_P (kD K) vwCl (zws kx n B (kaC K) m1) H1 → (∀ q, q < H.size → ¬ B ≤ q → H1[q]? = H[q]?) → va_S (fun q => (kS K).heap.size ≤ q) (kS K).heap H1 locs1 → W (kP K) (kL K) (kE K) (kR K) (kS K) (kMm K) (kAr K) (kBe K) (kMe K) (kC K) H1 locs1 (cs + mc') (sl + ms') Q (F0 (kMm K) (pc + 3) ls st)) : W (kP K) (kL K) (kE K) (kR K) (kS K) (kMm K) (kAr K) (kBe K) (kMe K) (kC K) H locs cs sl Q (F0 (kMm K) pc ls (.ref (B + 0) :: st)) := by
  obtain ⟨hini, hcd, hdy, hl13, -⟩ := hf
  have hts := hO.2.2.2.2.1
  have cw := callB_of (R := kR K) (own := "BeastsChooseLaw") (index := ix) (mc := mc') (ms := ms') (rm := { frames := dy, cells := mc', slots := ms', locals := 32 * dy }) 0 hts (goodInTBL hcd) rfl rfl rfl (hts _ hini) (hts _ hw) hdy ⟨by rw [hRe]; show dy < 2048; omega, by rw [hRe]; show 8 + (ml + 11) + 32 * dy ≤ 84000; omega⟩
  have hXB : zXt S V B (kS K) H := ⟨(hXt.1.kept (H1 := H) (fun a h1 h3 => hS.2.1 a h1 h3)).narrow (fun q hq => Nat.le_trans hB hq), hXt.2⟩
  refine z_runCL (A := fun q => (kS K).heap.size ≤ q) (va_runI (g := F0 (kMm K) pc ls (.ref (B + 0) :: st)) (As := []) (rest := st) ⟨hO.1, hO.2.1, rfl, hO.2.2.2.1, hts⟩ hM ⟨cw, hi, hts _ hw2⟩ ⟨zCt_blind, fun U hU hW => ⟨rfl, by rw [hU]; exact hP, by rw [hU]; exact hsz, va_K.moved hW.alike hKs, hNw.warm hW, by rw [hU]; exact hXB.warm hW⟩⟩ rfl rfl hv.1 rfl (lv_room hsum) hd ⟨by rw [hRe]; exact hc, by rw [hRe]; exact hs⟩) (fun q h => Nat.le_trans hB h) hS (fun H1 locs1 hP1 hk1 hS1 => ?_)
  exact kk H1 locs1 hP1 hk1 hS1
end LNEW
