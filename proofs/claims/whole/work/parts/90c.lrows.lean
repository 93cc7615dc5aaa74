/-! the law: two worlds, its rows -/
def LH (K : zK) (BM : Nat) (mC mM : zM) (H : Heap) (locs : List Loc) : Prop := va_P (kD K) vwCl (zws kdC 249 (kB K) (kaC K) mC) H ∧ va_P (kD K) vwCl (zws kdM 53 BM (kaC K) mM) H ∧ va_S (fun q => (kS K).heap.size ≤ q) (kS K).heap H locs
def zLw (K : zK) (BM : Nat) : Prop := zOw K code 4 "BeastsChooseLaw" ∧ va_K (kD K) vwCl (ztys (kaC K)) (kS K) ∧ zNw (kS K) ∧ kR K = room_1 ∧ (kS K).heap.size ≤ kB K ∧ kB K + 249 ≤ BM
def xv (xs : Nat → Int32) (j : Int) : Int := (xs j.toNat).toInt
theorem mI_xv {xs : Nat → Int32} {j : Int} : (mI (xv xs j) : Value) = .int (xs j.toNat) := by
  show Value.int (Int32.ofInt (xs j.toNat).toInt) = _
  rw [Int32.ofInt_toInt]
theorem cI_xv {xs : Nat → Int32} {j : Int} : cI (xv xs j) := cI_t _
theorem z_runL {p : Program} {l : Launch} {e : Env} {R : Room} {s : State} {mm : MethodId} {args : Array Value} {below : List Frame} {meth : Method} {c : Code} {H : Heap} {locs : List Loc} {cs sl pc : Nat} {Q : State → Prop} {ls : Array Slot} {rest st0 : List Value} {a : Array Value} {D : va_G} {aC : Nat → ClassId} {B N : Nat} {kd : Nat → Nat × Nat} {ρ1 : zR} {A : Nat → Prop}
    (hr : va_Run p l e R s mm args below meth c H locs cs sl 0 0 (F0 mm pc ls st0) rest (zPost D aC B kd N ρ1 a) (zA N B)) (hA : ∀ q, zA N B q → A q) (hS : va_S A s.heap H locs)
    (kk : ∀ (H1 : Heap) (locs1 : List Loc), va_P D vwCl (zws kd N B aC ρ1.2.2) H1 → zG kd ρ1.2.2 → zok ρ1.1 ρ1.2.1 → (∀ q, q < H.size → ¬ zA N B q → H1[q]? = H[q]?) → va_S A s.heap H1 locs1 → W p l e R s mm args below meth c H1 locs1 cs sl Q (F0 mm (pc + 3) ls ((zrv ρ1).toList ++ rest))) : W p l e R s mm args below meth c H locs cs sl Q (F0 mm pc ls st0) := by
  intro T hT X
  obtain ⟨v, st₀, t, T', L, h0, X', hL, e1, e2, ⟨hv, hP, hKt, hG, hz, hF1, hF2⟩, sts⟩ := hr T hT X
  cases hv
  rw [h0] at hF1 hF2
  obtain ⟨t2, a1, b1⟩ := kk T'.heap (locs ++ L) (by rw [e1]; exact hP) hG hz (fun q h1 h2 => by rw [e1]; exact hF2 q h1 h2) ⟨Nat.le_trans hS.1 (by rw [e1]; exact hF1), fun q h1 h2 => by rw [e1, hF2 q (Nat.lt_of_lt_of_le h1 hS.1) (fun w => h2 (hA q w))]; exact hS.2.1 q h1 h2, fun q hq => by
      rcases List.mem_append.mp hq with h | h
      · exact hS.2.2 q h
      · exact hA _ (hL q h)⟩ T' rfl X'
  exact ⟨t2, sts t2 a1, b1⟩
section LROWS
variable {K : zK} {BM cs sl : Nat} {Q : State → Prop} {lv : List (Nat × Value)} {st : List Value} {pc nx : Nat} {mC mM : zM}
theorem lw_sld (hk : zLw K BM) {b L : Nat} {xs : Nat → Int32} {j : Int} (hX : va_X b L xs (kS K) (kS K).heap) (hbl : b < (kS K).heap.size) (hL : L ≤ 3072) (j0 : 0 ≤ j) (j1 : j < (L : Int)) (hd : zdec code pc (.iaload) 1 nx) (kk : GoW K (LH K BM mC mM) cs sl Q lv (mI (xv xs j) :: st) nx) : GoW K (LH K BM mC mM) cs sl Q lv (mI j :: .ref b :: st) pc := by
  obtain ⟨hd, rfl⟩ := hd
  intro H locs ls hH hv
  have w := vin_of (i := j) (n := L) (show _ ∧ _ from ⟨by omega, by omega⟩) j0 j1
  refine va_sld hk.1.1 hk.1.2.1 hX hbl (Nat.not_le.mpr hbl) hH.2.2 w.1 hd ?_
  rw [w.2, ← mI_xv]
  exact kk H locs ls hH hv
theorem lw_slen (hk : zLw K BM) {b L : Nat} {xs : Nat → Int32} (hX : va_X b L xs (kS K) (kS K).heap) (hbl : b < (kS K).heap.size) (hd : zdec code pc (.arraylength) 1 nx) (kk : GoW K (LH K BM mC mM) cs sl Q lv (mI (L : Int) :: st) nx) : GoW K (LH K BM mC mM) cs sl Q lv (.ref b :: st) pc := by
  obtain ⟨hd, rfl⟩ := hd
  intro H locs ls hH hv
  exact va_slen hk.1.1 hk.1.2.1 hX hbl (Nat.not_le.mpr hbl) hH.2.2 hd (kk H locs ls hH hv)
theorem zok_W {t : Nat} {r : Int} (h : zok t r) (ht : t = 0 ∨ t = 4) : cI r := by
  rcases ht with e | e
  · subst e
    exact h
  · subst e
    rcases (show r = 0 ∨ r = 1 from h) with e | e <;> subst e <;> exact cIk rfl
theorem zrv_I {t : Nat} {r : Int} {m : zM} (ht : t = 0 ∨ t = 4) : (zrv (t, r, m)).toList = [mI r] := by
  rcases ht with e | e <;> subst e <;> rfl
theorem lw_callC (hk : zLw K BM) {y : MethodName} {cy : ByteArray} {ml dy n ix t : Nat} {ry : Option FieldType} {As : List Value} {r : Int} {m1 : zM} {st0 : List Value} (ht : t = 0 ∨ t = 4) (hf : zMf y cy ml ry n) (hw : Cond.methodLink "BeastsChooseLaw" ix y ∈ TBL) (hw2 : zMv 11 y) (hdd : dy ≤ 2000) (hcs : cs ≤ 600000) (hsl : sl ≤ 7302250) (hn : As.length = n) (hsum : (st.map fun v => v.category).sum ≤ 8) (hst : As.reverse ++ .ref (kB K + 0) :: st = st0) (hd : zdec code pc (.invokevirtual ix) 3 nx) (hM : zMet (kL K) y cy ml ry dy (kD K) (kaC K) (kB K) kdC 249 (.ref (kB K + 0) :: As) mC (t, r, m1)) (kk : zG kdC m1 → cI r → GoW K (LH K BM m1 mM) cs sl Q lv (mI r :: st) nx) : GoW K (LH K BM mC mM) cs sl Q lv st0 pc := by
  obtain ⟨hd, rfl⟩ := hd
  obtain ⟨hi, hc, hdy, hl13, -⟩ := hf
  obtain ⟨hv1, hv2, T, hcl⟩ := hw2
  intro H locs ls hH hv
  obtain ⟨hO, hKs, hNw, hRe, hB1, hB2⟩ := hk
  have hts := hO.2.2.2.2.1
  have hP := hH.1
  have he := zws_get (kd := kdC) (N := 249) (B := kB K) (aC := kaC K) (m := mC) (id := 0) (by decide)
  rw [zent_obj kdC_0] at he
  have cw := callB_of (R := kR K) (own := "BeastsChooseLaw") (index := ix) (mc := 0) (ms := 0) (rm := zRm dy) n hts (goodInTBL hc) rfl rfl rfl (hts _ hi) (hts _ hw) hdy ⟨by rw [hRe]; show dy < 2048; omega, by rw [hRe]; show 8 + (ml + 11) + 32 * dy ≤ 84000; omega⟩
  refine z_runL (A := fun q => (kS K).heap.size ≤ q) (va_runV (g := F0 (kMm K) pc ls st0) (As := As) (rest := st) (C := y.cls) ⟨hO.1, hO.2.1, rfl, hO.2.2.2.1, hts⟩ hM ⟨cw, hts _ hv1, hts _ hv2⟩ ⟨z_blind, va_recv hKs hP hcl he, fun U hU hW => ⟨rfl, by rw [hU]; exact hP, va_K.moved hW.alike hKs, hNw.warm hW⟩⟩ rfl hn hv.1 hst.symm (lv_room hsum) hd ⟨by rw [hRe]; exact hcs, by rw [hRe]; exact hsl⟩) (fun q h => by unfold zA at h; omega) hH.2.2 (fun H1 locs1 hP1 hG1 hz1 hk1 hS1 => ?_)
  rw [zrv_I ht]
  refine kk hG1 (zok_W hz1 ht) H1 locs1 ls ⟨hP1, hH.2.1.kept (fun k q hq => hk1 _ (hH.2.1 k q hq).lt (fun w => ?_)), hS1⟩ hv
  have w2 := zws_D.2 k q hq
  unfold zA at w w2
  omega
theorem lw_callM (hk : zLw K BM) {y : MethodName} {cy : ByteArray} {ml dy n ix t : Nat} {ry : Option FieldType} {As : List Value} {r : Int} {m1 : zM} {st0 : List Value} (ht : t = 0 ∨ t = 4) (hf : zMf y cy ml ry n) (hw : Cond.methodLink "BeastsChooseLaw" ix y ∈ TBL) (hw2 : zMv 12 y) (hdd : dy ≤ 2000) (hcs : cs ≤ 600000) (hsl : sl ≤ 7302250) (hn : As.length = n) (hsum : (st.map fun v => v.category).sum ≤ 8) (hst : As.reverse ++ .ref (BM + 0) :: st = st0) (hd : zdec code pc (.invokevirtual ix) 3 nx) (hM : zMet (kL K) y cy ml ry dy (kD K) (kaC K) BM kdM 53 (.ref (BM + 0) :: As) mM (t, r, m1)) (kk : zG kdM m1 → cI r → GoW K (LH K BM mC m1) cs sl Q lv (mI r :: st) nx) : GoW K (LH K BM mC mM) cs sl Q lv st0 pc := by
  obtain ⟨hd, rfl⟩ := hd
  obtain ⟨hi, hc, hdy, hl13, -⟩ := hf
  obtain ⟨hv1, hv2, T, hcl⟩ := hw2
  intro H locs ls hH hv
  obtain ⟨hO, hKs, hNw, hRe, hB1, hB2⟩ := hk
  have hts := hO.2.2.2.2.1
  have hP := hH.2.1
  have he := zws_get (kd := kdM) (N := 53) (B := BM) (aC := kaC K) (m := mM) (id := 0) (by decide)
  rw [zent_obj kdM_0] at he
  have cw := callB_of (R := kR K) (own := "BeastsChooseLaw") (index := ix) (mc := 0) (ms := 0) (rm := zRm dy) n hts (goodInTBL hc) rfl rfl rfl (hts _ hi) (hts _ hw) hdy ⟨by rw [hRe]; show dy < 2048; omega, by rw [hRe]; show 8 + (ml + 11) + 32 * dy ≤ 84000; omega⟩
  refine z_runL (A := fun q => (kS K).heap.size ≤ q) (va_runV (g := F0 (kMm K) pc ls st0) (As := As) (rest := st) (C := y.cls) ⟨hO.1, hO.2.1, rfl, hO.2.2.2.1, hts⟩ hM ⟨cw, hts _ hv1, hts _ hv2⟩ ⟨z_blind, va_recv hKs hP hcl he, fun U hU hW => ⟨rfl, by rw [hU]; exact hP, va_K.moved hW.alike hKs, hNw.warm hW⟩⟩ rfl hn hv.1 hst.symm (lv_room hsum) hd ⟨by rw [hRe]; exact hcs, by rw [hRe]; exact hsl⟩) (fun q h => by unfold zA at h; omega) hH.2.2 (fun H1 locs1 hP1 hG1 hz1 hk1 hS1 => ?_)
  rw [zrv_I ht]
  refine kk hG1 (zok_W hz1 ht) H1 locs1 ls ⟨hH.1.kept (fun k q hq => hk1 _ (hH.1 k q hq).lt (fun w => ?_)), hP1, hS1⟩ hv
  have w2 := zws_D.2 k q hq
  unfold zA at w w2
  omega
end LROWS
