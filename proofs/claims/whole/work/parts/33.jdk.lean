def OWNB : List Int32 := [98, 101, 97, 115, 116, 32, 119, 97, 107, 101, 115, 32, 116, 111, 32, 97, 116, 32, 116, 97, 115, 116, 101, 32, 103, 117, 101, 115, 116, 32, 99, 111, 109, 101, 115, 32, 102, 101, 97, 114, 115, 32, 108, 105, 107, 101, 115, 32, 109, 97, 121, 32, 117, 115, 104, 101, 114, 115, 32, 98, 111, 114, 101, 115, 32, 107, 101, 101, 112, 115, 32, 102, 101, 101, 32, 114, 97, 105, 110, 32, 115, 117, 105, 116, 115, 32, 115, 97, 119, 32, 104, 111, 117, 114, 32, 108, 111, 111, 107, 115, 32, 115, 109, 101, 108, 108, 32, 116, 97, 108, 107, 32, 108, 105, 107, 105, 110, 103, 32, 102, 114, 101, 101, 32, 105, 102, 32, 111, 114, 32, 97, 110, 100, 32, 110, 111, 116, 32, 97, 108, 108, 32, 109, 105, 110, 32, 109, 97, 120, 32]
def zStr (S V : Nat) (A : Nat → Prop) (U : State) (H : Heap) : Prop := va_O "java/lang/String" S A U H ∧ va_OF "java/lang/String" "coder" "B" (.int 0) S A U H ∧ va_OF "java/lang/String" "value" "[B" (.ref V) S A U H ∧ va_T .byte V 150 (fun j => .int (OWNB.getD j 0)) A U H ∧ va_Z "java/lang/String" "COMPACT_STRINGS" "Z" (.int 1) A U H ∧ va_Zq "jdk/internal/util/Preconditions" "SIOOBE_FORMATTER" "Ljava/util/function/BiFunction;" A U H
theorem zStr.moved {S V : Nat} {A : Nat → Prop} {u U : State} {H : Heap} (hvm : u.vm.Alike U.vm) (h : zStr S V A u H) : zStr S V A U H := ⟨va_O.moved hvm h.1, va_OF.moved hvm h.2.1, va_OF.moved hvm h.2.2.1, va_T.moved hvm h.2.2.2.1, va_Z.moved hvm h.2.2.2.2.1, va_Zq.moved hvm h.2.2.2.2.2⟩
theorem zStr.kept {S V : Nat} {A : Nat → Prop} {U : State} {H H1 : Heap} (h : zStr S V A U H) (hq : ∀ a : Nat, a < H.size → ¬ A a → H1[a]? = H[a]?) : zStr S V A U H1 := ⟨h.1.kept hq, h.2.1.kept hq, h.2.2.1.kept hq, h.2.2.2.1.kept hq, h.2.2.2.2.1.kept hq, h.2.2.2.2.2.kept hq⟩
theorem zStr.narrow {S V : Nat} {A B : Nat → Prop} {U : State} {H : Heap} (h : zStr S V A U H) (hAB : ∀ q, B q → A q) : zStr S V B U H := ⟨h.1.narrow hAB, h.2.1.narrow hAB, h.2.2.1.narrow hAB, h.2.2.2.1.narrow hAB, h.2.2.2.2.1.narrow hAB, h.2.2.2.2.2.narrow hAB⟩
def jPost (v : Option Value) : Array Value → State → Outcome → State → Prop := fun _ st oc t => oc = .returned v ∧ t.heap = st.heap
def jMet (l : Launch) (y : MethodName) (cc : ByteArray) (maxL : Nat) (ret : Option FieldType) (d : Nat) (As : List Value) (S V : Nat) (A : Nat → Prop) (v : Option Value) : Prop :=
  Met l y (Cond.code y cc maxL ret :: TBL) (zRm d) (va_Pc As (fun U => zStr S V A U U.heap)) (jPost v) 0 0 (fun _ => False)
def jHp (K : zK) (H : Heap) (locs : List Loc) : Prop := H = (kS K).heap ∧ locs = []
def jOk (K : zK) (cc : ByteArray) (nL : Nat) (ret : Option FieldType) (own : String) (d S V : Nat) (A : Nat → Prop) : Prop := zOw K cc nL own ∧ (kMe K).sig.returnType = ret ∧ (kMe K).locks = false ∧ kR K = zRm d ∧ zStr S V A (kS K) (kS K).heap
abbrev jGo (K : zK) (v : Option Value) (lv : List (Nat × Value)) (st : List Value) (pc : Nat) : Prop := GoW K (jHp K) 0 0 (MQ (kBe K) (jPost v) (kAr K) (kS K) 0 0 (fun _ => False)) lv st pc
theorem jMet.of {l : Launch} {y : MethodName} {cc : ByteArray} {maxL : Nat} {ret : Option FieldType} {d n : Nat} {As : List Value} {S V : Nat} {A : Nat → Prop} {v : Option Value} (hf : zMf y cc maxL ret n) (hlen : (lg_sl As).length ≤ maxL)
    (body : ∀ K : zK, kL K = l → jOk K cc maxL ret y.cls d S V A → jGo K v (lv_args 0 As) [] 0) : jMet l y cc maxL ret d As S V A v := by
  refine Met.ofWF (cc := cc) (maxL := maxL) (ret := ret) hf.2.2.2.2 rfl ?_
  intro p e s mm args below meth c s₁ Bd hml hv
  obtain ⟨rfl, hX⟩ := hv
  have hts := atoms_spec (ws := Cond.code y cc maxL ret :: TBL) Bd.pre
  let K : zK := ((p, l, e, zRm d, s), (mm, As.toArray, below, meth, c), ((fun _ => 0, fun _ _ => 0), fun _ => 0, 0), fun _ => (9, 0), 0)
  have ok : jOk K cc maxL ret y.cls d S V A := ⟨⟨Bd.exec, Bd.bytes, hml, findClass_of_methodNamed Bd.named, fun w hw => hts w (List.mem_cons_of_mem _ hw), trivial⟩, Bd.returns, Bd.notSynchronized, rfl, hX⟩
  have G := body K rfl ok
  rw [lg_entry_eq]
  exact G s.heap [] _ ⟨rfl, rfl⟩ (by show lv_has _ c.maxLocals _; rw [hml]; exact lv_entry As hlen)
section JR
variable {K : zK} {lv : List (Nat × Value)} {st : List Value} {pc nx tgt : Nat} {off : Int} {cc : ByteArray} {nL d S V : Nat} {A : Nat → Prop} {ret : Option FieldType} {own : String} {v : Option Value}
theorem j_ret (hk : jOk K cc nL ret own d S V A) {ty : FieldType} {x : Int} (hr : ret = some ty) (hn : narrow ty (mI x) = mI x) (hd : zdec cc pc (.ireturn) 1 nx) : jGo K (some (mI x)) lv [mI x] pc := by
  subst hr
  intro H locs ls hH hv
  obtain ⟨rfl, rfl⟩ := hH
  have hlocks : (kMe K).locks = false := hk.2.2.1
  exact W.zret hk.1.1 hk.1.2.1 hk.2.1 hn (fun t ht _ => ⟨rfl, ht⟩) (fun q hq => absurd hq List.not_mem_nil) hd.1 hlocks
theorem j_vret (hk : jOk K cc nL none own d S V A) (hd : zdec cc pc (.return_) 1 nx) : jGo K none lv [] pc := by
  intro H locs ls hH hv
  obtain ⟨rfl, rfl⟩ := hH
  have hlocks : (kMe K).locks = false := hk.2.2.1
  exact W.vret hk.1.1 hk.1.2.1 hk.2.1 (fun t ht _ => ⟨rfl, ht⟩) (fun q hq => absurd hq List.not_mem_nil) hd.1 hlocks
theorem j_gets (hk : jOk K cc nL ret own d S V A) {ix : Nat} (hw : Cond.fieldLink own ix "java/lang/String" "COMPACT_STRINGS" "Z" ∈ TBL) (hd : zdec cc pc (.getstatic ix) 3 nx) (kk : jGo K v lv (mI 1 :: st) nx) : jGo K v lv st pc := by
  obtain ⟨hd, rfl⟩ := hd
  intro H locs ls hH hv
  obtain ⟨rfl, rfl⟩ := hH
  exact va_gets hk.1.1 hk.1.2.1 hk.2.2.2.2.2.2.2.2.1 va_S.rf hk.1.2.2.2.1 (hk.1.2.2.2.2.1 _ hw) (fun _ h => h) hd (kk _ _ ls ⟨rfl, rfl⟩ hv)
theorem j_getf (hk : jOk K cc nL ret own d S V A) {ix : Nat} (hw : Cond.fieldLink own ix "jdk/internal/util/Preconditions" "SIOOBE_FORMATTER" "Ljava/util/function/BiFunction;" ∈ TBL) (hd : zdec cc pc (.getstatic ix) 3 nx) (kk : ∀ w : Value, w.category = 1 → jGo K v lv (w :: st) nx) : jGo K v lv st pc := by
  obtain ⟨hd, rfl⟩ := hd
  intro H locs ls hH hv
  obtain ⟨rfl, rfl⟩ := hH
  rcases hk.2.2.2.2.2.2.2.2.2 with hz | ⟨t, hz⟩
  · exact va_gets hk.1.1 hk.1.2.1 hz va_S.rf hk.1.2.2.2.1 (hk.1.2.2.2.2.1 _ hw) (fun _ h => h) hd (kk _ rfl _ _ ls ⟨rfl, rfl⟩ hv)
  · exact va_gets hk.1.1 hk.1.2.1 hz va_S.rf hk.1.2.2.2.1 (hk.1.2.2.2.2.1 _ hw) (fun _ h => h) hd (kk _ rfl _ _ ls ⟨rfl, rfl⟩ hv)
theorem j_coder (hk : jOk K cc nL ret own d S V A) {ix : Nat} (hw : Cond.fieldLink own ix "java/lang/String" "coder" "B" ∈ TBL) (hd : zdec cc pc (.getfield ix) 3 nx) (kk : jGo K v lv (mI 0 :: st) nx) : jGo K v lv (.ref S :: st) pc := by
  obtain ⟨hd, rfl⟩ := hd
  intro H locs ls hH hv
  obtain ⟨rfl, rfl⟩ := hH
  exact vk_getf hk.1.1 hk.1.2.1 hk.2.2.2.2.2.1 va_S.rf hk.1.2.2.2.1 (hk.1.2.2.2.2.1 _ hw) (fun _ h => h) hd (kk _ _ ls ⟨rfl, rfl⟩ hv)
theorem j_value (hk : jOk K cc nL ret own d S V A) {ix : Nat} (hw : Cond.fieldLink own ix "java/lang/String" "value" "[B" ∈ TBL) (hd : zdec cc pc (.getfield ix) 3 nx) (kk : jGo K v lv (.ref V :: st) nx) : jGo K v lv (.ref S :: st) pc := by
  obtain ⟨hd, rfl⟩ := hd
  intro H locs ls hH hv
  obtain ⟨rfl, rfl⟩ := hH
  exact vk_getf hk.1.1 hk.1.2.1 hk.2.2.2.2.2.2.1 va_S.rf hk.1.2.2.2.1 (hk.1.2.2.2.2.1 _ hw) (fun _ h => h) hd (kk _ _ ls ⟨rfl, rfl⟩ hv)
theorem j_alen (hk : jOk K cc nL ret own d S V A) (hd : zdec cc pc (.arraylength) 1 nx) (kk : jGo K v lv (mI 150 :: st) nx) : jGo K v lv (.ref V :: st) pc := by
  obtain ⟨hd, rfl⟩ := hd
  intro H locs ls hH hv
  obtain ⟨rfl, rfl⟩ := hH
  exact va_tlen hk.1.1 hk.1.2.1 hk.2.2.2.2.2.2.2.1 va_S.rf rfl hd (kk _ _ ls ⟨rfl, rfl⟩ hv)
theorem j_bald (hk : jOk K cc nL ret own d S V A) {i : Int} {x : Int32} (c : cI i) (h0 : 0 ≤ i) (h1 : i < 150) (hx : OWNB.getD i.toNat 0 = x) (hd : zdec cc pc (.baload) 1 nx) (kk : jGo K v lv (.int x :: st) nx) : jGo K v lv (mI i :: .ref V :: st) pc := by
  obtain ⟨hd, rfl⟩ := hd
  intro H locs ls hH hv
  obtain ⟨rfl, rfl⟩ := hH
  obtain ⟨v1, v2⟩ := vin_of (n := 150) c h0 h1
  exact va_tb hk.1.1 hk.1.2.1 hk.2.2.2.2.2.2.2.1 va_S.rf v1 (v := .int x) (by rw [v2, hx]) hd (kk _ _ ls ⟨rfl, rfl⟩ hv)
theorem j_blind {As : List Value} : FrameBlind (va_Pc As (fun U => zStr S V A U U.heap)) := fun a U g mk q => ⟨q.1, q.2.moved (Vm.Alike.refl U.vm)⟩
theorem j_run {p : Program} {l : Launch} {e : Env} {R : Room} {s : State} {mm : MethodId} {args : Array Value} {below : List Frame} {meth : Method} {c : Code} {H : Heap} {locs : List Loc} {cs sl : Nat} {Q : State → Prop} {ls : Array Slot} {rest st0 : List Value} {a : Array Value} {w : Option Value}
    (hr : va_Run p l e R s mm args below meth c H locs cs sl 0 0 (F0 mm pc ls st0) rest (jPost w a) (fun _ => False))
    (kk : W p l e R s mm args below meth c H locs cs sl Q (F0 mm (pc + 3) ls (w.toList ++ rest))) : W p l e R s mm args below meth c H locs cs sl Q (F0 mm pc ls st0) := by
  intro T hT X
  obtain ⟨v, st₀, t, T', L, h0, X', hL, e1, e2, ⟨hv, hh⟩, sts⟩ := hr T hT X
  cases hv
  have hLn : L = [] := List.eq_nil_iff_forall_not_mem.mpr hL
  subst hLn
  rw [List.append_nil] at X'
  obtain ⟨t2, a1, b1⟩ := kk T' (by rw [e1, hh, h0]) X'
  exact ⟨t2, sts t2 a1, b1⟩
theorem j_callS (hk : jOk K cc nL ret own d S V A) {y : MethodName} {cy : ByteArray} {ml dy n ix : Nat} {ry : Option FieldType} {As : List Value} {w : Option Value} {st0 : List Value} (hf : zMf y cy ml ry n) (hw : Cond.methodLink own ix y ∈ TBL) (hw2 : Cond.static y ∈ TBL) (hdd : dy < d) (hn : As.length = n) (hsum : (st.map fun v => v.category).sum ≤ 8) (hst : As.reverse ++ st = st0) (hd : zdec cc pc (.invokestatic ix) 3 nx) (hM : jMet (kL K) y cy ml ry dy As S V A w) (kk : jGo K v lv (w.toList ++ st) nx) : jGo K v lv st0 pc := by
  obtain ⟨hd, rfl⟩ := hd
  obtain ⟨hi, hc, hdy, hl13, -⟩ := hf
  intro H locs ls hH hv
  obtain ⟨rfl, rfl⟩ := hH
  have hRe : kR K = zRm d := hk.2.2.2.1
  have hts := hk.1.2.2.2.2.1
  have cw := callB_of (R := kR K) (own := own) (index := ix) (mc := 0) (ms := 0) (rm := zRm dy) n hts (goodInTBL hc) rfl rfl rfl (hts _ hi) (hts _ hw) hdy ⟨by rw [hRe]; exact hdd, by rw [hRe]; show 8 + (ml + 11) + 32 * dy ≤ 32 * d; omega⟩
  exact j_run (va_runS (g := F0 (kMm K) pc ls st0) (As := As) (rest := st) ⟨hk.1.1, hk.1.2.1, rfl, hk.1.2.2.2.1, hts⟩ hM ⟨cw, hts _ hw2⟩ ⟨j_blind, fun U hU hW => ⟨rfl, by show zStr S V A U U.heap; rw [hU]; exact hk.2.2.2.2.moved hW.alike⟩⟩ rfl hn hv.1 hst.symm (lv_room hsum) hd ⟨Nat.zero_le _, Nat.zero_le _⟩) (kk _ _ ls ⟨rfl, rfl⟩ hv)
theorem j_callV (hk : jOk K cc nL ret own d S V A) {y : MethodName} {cy : ByteArray} {ml dy n ix : Nat} {ry : Option FieldType} {As : List Value} {w : Option Value} {st0 : List Value} (hf : zMf y cy ml ry n) (hw : Cond.methodLink own ix y ∈ TBL) (hw2 : Cond.instanceMethod y ∈ TBL) (hw3 : Cond.selects "java/lang/String" y y ∈ TBL) (hdd : dy < d) (hn : As.length = n) (hsum : (st.map fun v => v.category).sum ≤ 8) (hst : As.reverse ++ .ref S :: st = st0) (hd : zdec cc pc (.invokevirtual ix) 3 nx) (hM : jMet (kL K) y cy ml ry dy (.ref S :: As) S V A w) (kk : jGo K v lv (w.toList ++ st) nx) : jGo K v lv st0 pc := by
  obtain ⟨hd, rfl⟩ := hd
  obtain ⟨hi, hc, hdy, hl13, -⟩ := hf
  intro H locs ls hH hv
  obtain ⟨rfl, rfl⟩ := hH
  have hRe : kR K = zRm d := hk.2.2.2.1
  have hts := hk.1.2.2.2.2.1
  have cw := callB_of (R := kR K) (own := own) (index := ix) (mc := 0) (ms := 0) (rm := zRm dy) n hts (goodInTBL hc) rfl rfl rfl (hts _ hi) (hts _ hw) hdy ⟨by rw [hRe]; exact hdd, by rw [hRe]; show 8 + (ml + 11) + 32 * dy ≤ 32 * d; omega⟩
  obtain ⟨cell, o1, o2, o3, -⟩ := hk.2.2.2.2.1
  exact j_run (va_runV (g := F0 (kMm K) pc ls st0) (As := As) (rest := st) (C := "java/lang/String") ⟨hk.1.1, hk.1.2.1, rfl, hk.1.2.2.2.1, hts⟩ hM ⟨cw, hts _ hw2, hts _ hw3⟩ ⟨j_blind, ⟨cell, o1, o2, o3⟩, fun U hU hW => ⟨rfl, by show zStr S V A U U.heap; rw [hU]; exact hk.2.2.2.2.moved hW.alike⟩⟩ rfl hn hv.1 hst.symm (lv_room hsum) hd ⟨Nat.zero_le _, Nat.zero_le _⟩) (kk _ _ ls ⟨rfl, rfl⟩ hv)
end JR
theorem dJ3_checkIndex_8e157_0 : zdec cJ3_checkIndex_8e157 0 (.iload_n 0) 1 1 := ⟨by decide +kernel, rfl⟩
theorem dJ3_checkIndex_8e157_1 : zbr cJ3_checkIndex_8e157 1 (.ifCond .lt 8) 4 8 9 := ⟨by decide +kernel, rfl, by decide⟩
theorem dJ3_checkIndex_8e157_4 : zdec cJ3_checkIndex_8e157 4 (.iload_n 0) 1 5 := ⟨by decide +kernel, rfl⟩
theorem dJ3_checkIndex_8e157_5 : zdec cJ3_checkIndex_8e157 5 (.iload_n 1) 1 6 := ⟨by decide +kernel, rfl⟩
theorem dJ3_checkIndex_8e157_6 : zbr cJ3_checkIndex_8e157 6 (.if_icmp .lt 10) 9 10 16 := ⟨by decide +kernel, rfl, by decide⟩
theorem dJ3_checkIndex_8e157_16 : zdec cJ3_checkIndex_8e157 16 (.iload_n 0) 1 17 := ⟨by decide +kernel, rfl⟩
theorem dJ3_checkIndex_8e157_17 : zdec cJ3_checkIndex_8e157 17 (.ireturn) 1 18 := ⟨by decide +kernel, rfl⟩
theorem dJ0_checkIndex_df160_0 : zdec cJ0_checkIndex_df160 0 (.iload_n 0) 1 1 := ⟨by decide +kernel, rfl⟩
theorem dJ0_checkIndex_df160_1 : zdec cJ0_checkIndex_df160 1 (.iload_n 1) 1 2 := ⟨by decide +kernel, rfl⟩
theorem dJ0_checkIndex_df160_2 : zdec cJ0_checkIndex_df160 2 (.getstatic 1053) 3 5 := ⟨by decide +kernel, rfl⟩
theorem dJ0_checkIndex_df160_5 : zdec cJ0_checkIndex_df160 5 (.invokestatic 1059) 3 8 := ⟨by decide +kernel, rfl⟩
theorem dJ0_checkIndex_df160_8 : zdec cJ0_checkIndex_df160 8 (.pop) 1 9 := ⟨by decide +kernel, rfl⟩
theorem dJ0_checkIndex_df160_9 : zdec cJ0_checkIndex_df160 9 (.return_) 1 10 := ⟨by decide +kernel, rfl⟩
theorem dJ1_charAt_3b067_0 : zdec cJ1_charAt_3b067 0 (.iload_n 1) 1 1 := ⟨by decide +kernel, rfl⟩
theorem dJ1_charAt_3b067_1 : zdec cJ1_charAt_3b067 1 (.aload_n 0) 1 2 := ⟨by decide +kernel, rfl⟩
theorem dJ1_charAt_3b067_2 : zdec cJ1_charAt_3b067 2 (.arraylength) 1 3 := ⟨by decide +kernel, rfl⟩
theorem dJ1_charAt_3b067_3 : zdec cJ1_charAt_3b067 3 (.invokestatic 9) 3 6 := ⟨by decide +kernel, rfl⟩
theorem dJ1_charAt_3b067_6 : zdec cJ1_charAt_3b067 6 (.aload_n 0) 1 7 := ⟨by decide +kernel, rfl⟩
theorem dJ1_charAt_3b067_7 : zdec cJ1_charAt_3b067 7 (.iload_n 1) 1 8 := ⟨by decide +kernel, rfl⟩
theorem dJ1_charAt_3b067_8 : zdec cJ1_charAt_3b067 8 (.baload) 1 9 := ⟨by decide +kernel, rfl⟩
theorem dJ1_charAt_3b067_9 : zdec cJ1_charAt_3b067 9 (.sipush 255) 3 12 := ⟨by decide +kernel, rfl⟩
theorem dJ1_charAt_3b067_12 : zdec cJ1_charAt_3b067 12 (.iand) 1 13 := ⟨by decide +kernel, rfl⟩
theorem dJ1_charAt_3b067_13 : zdec cJ1_charAt_3b067 13 (.i2c) 1 14 := ⟨by decide +kernel, rfl⟩
theorem dJ1_charAt_3b067_14 : zdec cJ1_charAt_3b067 14 (.ireturn) 1 15 := ⟨by decide +kernel, rfl⟩
theorem dJ0_isLatin1_aae02_0 : zdec cJ0_isLatin1_aae02 0 (.getstatic 38) 3 3 := ⟨by decide +kernel, rfl⟩
theorem dJ0_isLatin1_aae02_3 : zbr cJ0_isLatin1_aae02 3 (.ifCond .eq 14) 6 14 17 := ⟨by decide +kernel, rfl, by decide⟩
theorem dJ0_isLatin1_aae02_6 : zdec cJ0_isLatin1_aae02 6 (.aload_n 0) 1 7 := ⟨by decide +kernel, rfl⟩
theorem dJ0_isLatin1_aae02_7 : zdec cJ0_isLatin1_aae02 7 (.getfield 15) 3 10 := ⟨by decide +kernel, rfl⟩
theorem dJ0_isLatin1_aae02_10 : zbr cJ0_isLatin1_aae02 10 (.ifCond .ne 7) 13 7 17 := ⟨by decide +kernel, rfl, by decide⟩
theorem dJ0_isLatin1_aae02_13 : zdec cJ0_isLatin1_aae02 13 (.iconst 1) 1 14 := ⟨by decide +kernel, rfl⟩
theorem dJ0_isLatin1_aae02_14 : zbr cJ0_isLatin1_aae02 14 (.goto 4) 17 4 18 := ⟨by decide +kernel, rfl, by decide⟩
theorem dJ0_isLatin1_aae02_17 : zdec cJ0_isLatin1_aae02 17 (.iconst 0) 1 18 := ⟨by decide +kernel, rfl⟩
theorem dJ0_isLatin1_aae02_18 : zdec cJ0_isLatin1_aae02 18 (.ireturn) 1 19 := ⟨by decide +kernel, rfl⟩
theorem dJ0_coder_7d493_0 : zdec cJ0_coder_7d493 0 (.getstatic 38) 3 3 := ⟨by decide +kernel, rfl⟩
theorem dJ0_coder_7d493_3 : zbr cJ0_coder_7d493 3 (.ifCond .eq 10) 6 10 13 := ⟨by decide +kernel, rfl, by decide⟩
theorem dJ0_coder_7d493_6 : zdec cJ0_coder_7d493 6 (.aload_n 0) 1 7 := ⟨by decide +kernel, rfl⟩
theorem dJ0_coder_7d493_7 : zdec cJ0_coder_7d493 7 (.getfield 15) 3 10 := ⟨by decide +kernel, rfl⟩
theorem dJ0_coder_7d493_10 : zbr cJ0_coder_7d493 10 (.goto 4) 13 4 14 := ⟨by decide +kernel, rfl, by decide⟩
theorem dJ0_coder_7d493_13 : zdec cJ0_coder_7d493 13 (.iconst 1) 1 14 := ⟨by decide +kernel, rfl⟩
theorem dJ0_coder_7d493_14 : zdec cJ0_coder_7d493 14 (.ireturn) 1 15 := ⟨by decide +kernel, rfl⟩
theorem dJ0_length_8abf5_0 : zdec cJ0_length_8abf5 0 (.aload_n 0) 1 1 := ⟨by decide +kernel, rfl⟩
theorem dJ0_length_8abf5_1 : zdec cJ0_length_8abf5 1 (.getfield 9) 3 4 := ⟨by decide +kernel, rfl⟩
theorem dJ0_length_8abf5_4 : zdec cJ0_length_8abf5 4 (.arraylength) 1 5 := ⟨by decide +kernel, rfl⟩
theorem dJ0_length_8abf5_5 : zdec cJ0_length_8abf5 5 (.aload_n 0) 1 6 := ⟨by decide +kernel, rfl⟩
theorem dJ0_length_8abf5_6 : zdec cJ0_length_8abf5 6 (.invokevirtual 335) 3 9 := ⟨by decide +kernel, rfl⟩
theorem dJ0_length_8abf5_9 : zdec cJ0_length_8abf5 9 (.ishr) 1 10 := ⟨by decide +kernel, rfl⟩
theorem dJ0_length_8abf5_10 : zdec cJ0_length_8abf5 10 (.ireturn) 1 11 := ⟨by decide +kernel, rfl⟩
theorem dJ0_charAt_5068e_0 : zdec cJ0_charAt_5068e 0 (.aload_n 0) 1 1 := ⟨by decide +kernel, rfl⟩
theorem dJ0_charAt_5068e_1 : zdec cJ0_charAt_5068e 1 (.invokevirtual 492) 3 4 := ⟨by decide +kernel, rfl⟩
theorem dJ0_charAt_5068e_4 : zbr cJ0_charAt_5068e 4 (.ifCond .eq 12) 7 12 16 := ⟨by decide +kernel, rfl, by decide⟩
theorem dJ0_charAt_5068e_7 : zdec cJ0_charAt_5068e 7 (.aload_n 0) 1 8 := ⟨by decide +kernel, rfl⟩
theorem dJ0_charAt_5068e_8 : zdec cJ0_charAt_5068e 8 (.getfield 9) 3 11 := ⟨by decide +kernel, rfl⟩
theorem dJ0_charAt_5068e_11 : zdec cJ0_charAt_5068e 11 (.iload_n 1) 1 12 := ⟨by decide +kernel, rfl⟩
theorem dJ0_charAt_5068e_12 : zdec cJ0_charAt_5068e 12 (.invokestatic 495) 3 15 := ⟨by decide +kernel, rfl⟩
theorem dJ0_charAt_5068e_15 : zdec cJ0_charAt_5068e 15 (.ireturn) 1 16 := ⟨by decide +kernel, rfl⟩
theorem dJ0_charAt_5068e_16 : zdec cJ0_charAt_5068e 16 (.aload_n 0) 1 17 := ⟨by decide +kernel, rfl⟩
theorem dJ0_charAt_5068e_17 : zdec cJ0_charAt_5068e 17 (.getfield 9) 3 20 := ⟨by decide +kernel, rfl⟩
theorem dJ0_charAt_5068e_20 : zdec cJ0_charAt_5068e 20 (.iload_n 1) 1 21 := ⟨by decide +kernel, rfl⟩
theorem dJ0_charAt_5068e_21 : zdec cJ0_charAt_5068e 21 (.invokestatic 498) 3 24 := ⟨by decide +kernel, rfl⟩
theorem dJ0_charAt_5068e_24 : zdec cJ0_charAt_5068e 24 (.ireturn) 1 25 := ⟨by decide +kernel, rfl⟩
theorem mf_J3_checkIndex_8e157 : zMf yJ3_checkIndex_8e157 cJ3_checkIndex_8e157 3 (some .int) 3 := ⟨inT1 6 rfl rfl, inT1 70 rfl rfl, ⟨by decide +kernel, by decide +kernel, by decide +kernel⟩, Nat.le_of_ble_eq_true rfl, by decide +kernel⟩
theorem mf_J0_checkIndex_df160 : zMf yJ0_checkIndex_df160 cJ0_checkIndex_df160 2 none 2 := ⟨inT1 4 rfl rfl, inT1 65 rfl rfl, ⟨by decide +kernel, by decide +kernel, by decide +kernel⟩, Nat.le_of_ble_eq_true rfl, by decide +kernel⟩
theorem mf_J1_charAt_3b067 : zMf yJ1_charAt_3b067 cJ1_charAt_3b067 2 (some .char) 2 := ⟨inT1 5 rfl rfl, inT1 62 rfl rfl, ⟨by decide +kernel, by decide +kernel, by decide +kernel⟩, Nat.le_of_ble_eq_true rfl, by decide +kernel⟩
theorem mf_J0_isLatin1_aae02 : zMf yJ0_isLatin1_aae02 cJ0_isLatin1_aae02 1 (some .boolean) 0 := ⟨inT1 4 rfl rfl, inT1 59 rfl rfl, ⟨by decide +kernel, by decide +kernel, by decide +kernel⟩, Nat.le_of_ble_eq_true rfl, by decide +kernel⟩
theorem mf_J0_coder_7d493 : zMf yJ0_coder_7d493 cJ0_coder_7d493 1 (some .byte) 0 := ⟨inT1 4 rfl rfl, inT1 49 rfl rfl, ⟨by decide +kernel, by decide +kernel, by decide +kernel⟩, Nat.le_of_ble_eq_true rfl, by decide +kernel⟩
theorem mf_J0_length_8abf5 : zMf yJ0_length_8abf5 cJ0_length_8abf5 1 (some .int) 0 := ⟨inT1 4 rfl rfl, inT1 45 rfl rfl, ⟨by decide +kernel, by decide +kernel, by decide +kernel⟩, Nat.le_of_ble_eq_true rfl, by decide +kernel⟩
theorem mf_J0_charAt_5068e : zMf yJ0_charAt_5068e cJ0_charAt_5068e 2 (some .char) 1 := ⟨inT1 4 rfl rfl, inT1 55 rfl rfl, ⟨by decide +kernel, by decide +kernel, by decide +kernel⟩, Nat.le_of_ble_eq_true rfl, by decide +kernel⟩
theorem met_pci (l : Launch) {S V : Nat} {A : Nat → Prop} {i n : Int} {w : Value} (hw : w.category = 1) (ci : cI i) (cn : cI n) (h0 : 0 ≤ i) (h1 : i < n) : jMet l yJ3_checkIndex_8e157 cJ3_checkIndex_8e157 3 (some .int) 0 [mI i, mI n, w] S V A (some (mI i)) := by
  refine jMet.of mf_J3_checkIndex_8e157 (by show (lg_sl [mI i, mI n, w]).length ≤ 3; cases w <;> first | exact Nat.le_of_ble_eq_true rfl | cases hw) (fun K _ hk => ?_)
  have e : lv_args 0 [mI i, mI n, w] = [(0, mI i), (1, mI n), (2, w)] := rfl
  rw [e]
  refine gw_iload_n hk.1 0 rfl dJ3_checkIndex_8e157_0 ?_
  intro H locs ls hH hv
  refine lv_if_lt hk.1.1 hk.1.2.1 dJ3_checkIndex_8e157_1.1 dJ3_checkIndex_8e157_1.2.2 (fun c => ?_) (fun c => ?_)
  · exact absurd ((ilt_v ci c0I).mp c) (by omega)
  · refine (show jGo K (some (mI i)) [(0, mI i), (1, mI n), (2, w)] [] 4 from ?_) H locs ls hH hv
    refine gw_iload_n hk.1 0 rfl dJ3_checkIndex_8e157_4 ?_
    refine gw_iload_n hk.1 1 rfl dJ3_checkIndex_8e157_5 ?_
    refine gw_icmp_lt hk.1 ci cn dJ3_checkIndex_8e157_6 (fun _ => ?_) (fun q => absurd h1 q)
    refine gw_iload_n hk.1 0 rfl dJ3_checkIndex_8e157_16 ?_
    exact j_ret hk rfl (vp_nar_int _) dJ3_checkIndex_8e157_17
theorem met_sci (l : Launch) {S V : Nat} {A : Nat → Prop} {i n : Int} (ci : cI i) (cn : cI n) (h0 : 0 ≤ i) (h1 : i < n) : jMet l yJ0_checkIndex_df160 cJ0_checkIndex_df160 2 none 1 [mI i, mI n] S V A none := by
  refine jMet.of mf_J0_checkIndex_df160 (Nat.le_of_ble_eq_true rfl) (fun K hl hk => ?_)
  subst hl
  refine gw_iload_n hk.1 0 rfl dJ0_checkIndex_df160_0 ?_
  refine gw_iload_n hk.1 1 rfl dJ0_checkIndex_df160_1 ?_
  refine j_getf hk (inT1 66 rfl rfl) dJ0_checkIndex_df160_2 (fun w hw => ?_)
  refine j_callS hk (st := []) mf_J3_checkIndex_8e157 (inT1 68 rfl rfl) (inT1 69 rfl rfl) (by decide) rfl (Nat.le_of_ble_eq_true rfl) rfl dJ0_checkIndex_df160_5 (met_pci _ hw ci cn h0 h1) ?_
  refine gw_pop hk.1 rfl dJ0_checkIndex_df160_8 ?_
  exact j_vret hk dJ0_checkIndex_df160_9
theorem OWN_nar : ∀ j, j < 150 → (((OWNB.getD j 0) &&& (Int16.ofInt 255).toInt32).toUInt32 % 65536).toInt32 = OWNB.getD j 0 ∧ narrow .char (.int (OWNB.getD j 0)) = .int (OWNB.getD j 0) := by decide +kernel
theorem met_lca (l : Launch) {S V : Nat} {A : Nat → Prop} {i x : Int} (ci : cI i) (h0 : 0 ≤ i) (h1 : i < 150) (hx : OWNB.getD i.toNat 0 = Int32.ofInt x) : jMet l yJ1_charAt_3b067 cJ1_charAt_3b067 2 (some .char) 2 [.ref V, mI i] S V A (some (mI x)) := by
  refine jMet.of mf_J1_charAt_3b067 (Nat.le_of_ble_eq_true rfl) (fun K hl hk => ?_)
  subst hl
  obtain ⟨n1, n2⟩ := OWN_nar i.toNat (by omega)
  refine gw_iload_n hk.1 1 rfl dJ1_charAt_3b067_0 ?_
  refine gw_aload_n hk.1 0 rfl dJ1_charAt_3b067_1 ?_
  refine j_alen hk dJ1_charAt_3b067_2 ?_
  refine j_callS hk (st := []) mf_J0_checkIndex_df160 (inT1 63 rfl rfl) (inT1 64 rfl rfl) (by decide) rfl (Nat.le_of_ble_eq_true rfl) rfl dJ1_charAt_3b067_3 (met_sci _ ci (cIk rfl) h0 h1) ?_
  refine gw_aload_n hk.1 0 rfl dJ1_charAt_3b067_6 ?_
  refine gw_iload_n hk.1 1 rfl dJ1_charAt_3b067_7 ?_
  refine j_bald hk ci h0 h1 rfl dJ1_charAt_3b067_8 ?_
  intro H locs ls hH hv
  refine lv_sipush hk.1.1 hk.1.2.1 dJ1_charAt_3b067_9.1 rfl ?_
  refine lv_iand hk.1.1 hk.1.2.1 dJ1_charAt_3b067_12.1 ?_
  refine lv_i2c hk.1.1 hk.1.2.1 dJ1_charAt_3b067_13.1 (n1.trans hx) ?_
  exact j_ret hk rfl (by rw [hx] at n2; exact n2) dJ1_charAt_3b067_14 H locs ls hH hv
theorem met_isl (l : Launch) {S V : Nat} {A : Nat → Prop} : jMet l yJ0_isLatin1_aae02 cJ0_isLatin1_aae02 1 (some .boolean) 0 [.ref S] S V A (some (mI 1)) := by
  refine jMet.of mf_J0_isLatin1_aae02 (Nat.le_of_ble_eq_true rfl) (fun K hl hk => ?_)
  refine j_gets hk (inT1 50 rfl rfl) dJ0_isLatin1_aae02_0 ?_
  intro H locs ls hH hv
  refine lv_if_eq hk.1.1 hk.1.2.1 dJ0_isLatin1_aae02_3.1 dJ0_isLatin1_aae02_3.2.2 (fun c => absurd c (by decide)) (fun _ => ?_)
  refine (show jGo K (some (mI 1)) [(0, .ref S)] [] 6 from ?_) H locs ls hH hv
  refine gw_aload_n hk.1 0 rfl dJ0_isLatin1_aae02_6 ?_
  refine j_coder hk (inT9 37 rfl rfl) dJ0_isLatin1_aae02_7 ?_
  intro H locs ls hH hv
  refine lv_if_ne hk.1.1 hk.1.2.1 dJ0_isLatin1_aae02_10.1 dJ0_isLatin1_aae02_10.2.2 (fun c => absurd rfl c) (fun _ => ?_)
  refine (show jGo K (some (mI 1)) [(0, .ref S)] [] 13 from ?_) H locs ls hH hv
  refine gw_iconst hk.1 (v := 1) rfl dJ0_isLatin1_aae02_13 ?_
  refine gw_goto hk.1 dJ0_isLatin1_aae02_14 ?_
  exact j_ret hk rfl (nar4 z1) dJ0_isLatin1_aae02_18
theorem met_cod (l : Launch) {S V : Nat} {A : Nat → Prop} : jMet l yJ0_coder_7d493 cJ0_coder_7d493 1 (some .byte) 0 [.ref S] S V A (some (mI 0)) := by
  refine jMet.of mf_J0_coder_7d493 (Nat.le_of_ble_eq_true rfl) (fun K hl hk => ?_)
  refine j_gets hk (inT1 50 rfl rfl) dJ0_coder_7d493_0 ?_
  intro H locs ls hH hv
  refine lv_if_eq hk.1.1 hk.1.2.1 dJ0_coder_7d493_3.1 dJ0_coder_7d493_3.2.2 (fun c => absurd c (by decide)) (fun _ => ?_)
  refine (show jGo K (some (mI 0)) [(0, .ref S)] [] 6 from ?_) H locs ls hH hv
  refine gw_aload_n hk.1 0 rfl dJ0_coder_7d493_6 ?_
  refine j_coder hk (inT9 37 rfl rfl) dJ0_coder_7d493_7 ?_
  refine gw_goto hk.1 dJ0_coder_7d493_10 ?_
  exact j_ret hk rfl (by decide) dJ0_coder_7d493_14
theorem met_len (l : Launch) {S V : Nat} {A : Nat → Prop} : jMet l yJ0_length_8abf5 cJ0_length_8abf5 1 (some .int) 1 [.ref S] S V A (some (mI 150)) := by
  refine jMet.of mf_J0_length_8abf5 (Nat.le_of_ble_eq_true rfl) (fun K hl hk => ?_)
  subst hl
  refine gw_aload_n hk.1 0 rfl dJ0_length_8abf5_0 ?_
  refine j_value hk (inT9 36 rfl rfl) dJ0_length_8abf5_1 ?_
  refine j_alen hk dJ0_length_8abf5_4 ?_
  refine gw_aload_n hk.1 0 rfl dJ0_length_8abf5_5 ?_
  refine j_callV hk (st := [mI 150]) mf_J0_coder_7d493 (inT1 46 rfl rfl) (inT1 47 rfl rfl) (inT1 48 rfl rfl) (by decide) rfl (Nat.le_of_ble_eq_true rfl) rfl dJ0_length_8abf5_6 (met_cod _) ?_
  intro H locs ls hH hv
  refine lv_ishr hk.1.1 hk.1.2.1 dJ0_length_8abf5_9.1 ?_
  have e : (Int32.ofInt 150 >>> (Int32.ofInt 0 &&& 31)) = Int32.ofInt 150 := by decide
  rw [e]
  exact j_ret hk rfl (vp_nar_int _) dJ0_length_8abf5_10 H locs ls hH hv
theorem met_cha (l : Launch) {S V : Nat} {A : Nat → Prop} {i x : Int} (ci : cI i) (h0 : 0 ≤ i) (h1 : i < 150) (hx : OWNB.getD i.toNat 0 = Int32.ofInt x) : jMet l yJ0_charAt_5068e cJ0_charAt_5068e 2 (some .char) 3 [.ref S, mI i] S V A (some (mI x)) := by
  refine jMet.of mf_J0_charAt_5068e (Nat.le_of_ble_eq_true rfl) (fun K hl hk => ?_)
  subst hl
  obtain ⟨n1, n2⟩ := OWN_nar i.toNat (by omega)
  refine gw_aload_n hk.1 0 rfl dJ0_charAt_5068e_0 ?_
  refine j_callV hk (st := []) mf_J0_isLatin1_aae02 (inT1 56 rfl rfl) (inT1 57 rfl rfl) (inT1 58 rfl rfl) (by decide) rfl (Nat.le_of_ble_eq_true rfl) rfl dJ0_charAt_5068e_1 (met_isl _) ?_
  intro H locs ls hH hv
  refine lv_if_eq hk.1.1 hk.1.2.1 dJ0_charAt_5068e_4.1 dJ0_charAt_5068e_4.2.2 (fun c => absurd c (by decide)) (fun _ => ?_)
  refine (show jGo K (some (mI x)) [(0, .ref S), (1, mI i)] [] 7 from ?_) H locs ls hH hv
  refine gw_aload_n hk.1 0 rfl dJ0_charAt_5068e_7 ?_
  refine j_value hk (inT9 36 rfl rfl) dJ0_charAt_5068e_8 ?_
  refine gw_iload_n hk.1 1 rfl dJ0_charAt_5068e_11 ?_
  refine j_callS hk (st := []) mf_J1_charAt_3b067 (inT1 60 rfl rfl) (inT1 61 rfl rfl) (by decide) rfl (Nat.le_of_ble_eq_true rfl) rfl dJ0_charAt_5068e_12 (met_lca _ ci h0 h1 hx) ?_
  exact j_ret hk rfl (by rw [hx] at n2; exact n2) dJ0_charAt_5068e_15
