/-- the judgement over any world -/
def GoW (K : zK) (Hp : Heap → List Loc → Prop) (cs sl : Nat) (Q : State → Prop) (lv : List (Nat × Value)) (st : List Value) (pc : Nat) : Prop :=
  ∀ (H : Heap) (locs : List Loc) (ls : Array Slot), Hp H locs → lv_has ls (kC K).maxLocals lv → W (kP K) (kL K) (kE K) (kR K) (kS K) (kMm K) (kAr K) (kBe K) (kMe K) (kC K) H locs cs sl Q (F0 (kMm K) pc ls st)
def zOw (K : zK) (cc : ByteArray) (nL : Nat) (own : String) : Prop :=
  (kP K).tables.exec = Jvm.exec ∧ (kC K).code = cc ∧ (kC K).maxLocals = nL ∧ (kS K).vm.findClass own = some (kMm K).cls ∧ (∀ w ∈ TBL, w.before (kAr K) (kS K) = true) ∧ True
section ROWSW
variable {K : zK} {Hp : Heap → List Loc → Prop} {cs sl : Nat} {Q : State → Prop} {lv : List (Nat × Value)} {st : List Value} {pc nx tgt : Nat} {off : Int} {cc : ByteArray} {nL : Nat} {own : String}
theorem GoW.sub {lv' : List (Nat × Value)} (ks : List Nat) (hl : lv_pick lv ks = lv') (kk : GoW K Hp cs sl Q lv' st pc) : GoW K Hp cs sl Q lv st pc := fun H locs ls hH hv => kk H locs ls hH (lv_sub hv ks hl)
theorem gw_iload_n (hk : zOw K cc nL own) {k : Fin 4} {x : Int} (q : Nat) (hl : lv[q]? = some ((k : Nat), mI x)) (hd : zdec cc pc (.iload_n k) 1 nx) (kk : GoW K Hp cs sl Q lv (mI x :: st) nx) : GoW K Hp cs sl Q lv (st) pc := by
  obtain ⟨hd, rfl⟩ := hd
  intro H locs ls hH hv
  exact lv_iload_n hk.1 hk.2.1 hd rfl (lv_at hv q hl) (kk H locs ls hH hv)
theorem gw_iload (hk : zOw K cc nL own) {k : Nat} {x : Int} (q : Nat) (hl : lv[q]? = some (k, mI x)) (hd : zdec cc pc (.iload k) 2 nx) (kk : GoW K Hp cs sl Q lv (mI x :: st) nx) : GoW K Hp cs sl Q lv (st) pc := by
  obtain ⟨hd, rfl⟩ := hd
  intro H locs ls hH hv
  exact lv_iload hk.1 hk.2.1 hd (lv_at hv q hl) (kk H locs ls hH hv)
theorem gw_aload_n (hk : zOw K cc nL own) {k : Fin 4} {x : Nat} (q : Nat) (hl : lv[q]? = some ((k : Nat), .ref x)) (hd : zdec cc pc (.aload_n k) 1 nx) (kk : GoW K Hp cs sl Q lv (.ref x :: st) nx) : GoW K Hp cs sl Q lv (st) pc := by
  obtain ⟨hd, rfl⟩ := hd
  intro H locs ls hH hv
  exact lv_aload_n hk.1 hk.2.1 hd rfl (lv_at hv q hl) (kk H locs ls hH hv)
theorem gw_aload (hk : zOw K cc nL own) {k : Nat} {x : Nat} (q : Nat) (hl : lv[q]? = some (k, .ref x)) (hd : zdec cc pc (.aload k) 2 nx) (kk : GoW K Hp cs sl Q lv (.ref x :: st) nx) : GoW K Hp cs sl Q lv (st) pc := by
  obtain ⟨hd, rfl⟩ := hd
  intro H locs ls hH hv
  exact lv_aload hk.1 hk.2.1 hd (lv_at hv q hl) (kk H locs ls hH hv)
theorem gw_iconst (hk : zOw K cc nL own) {n : Int} {v : Int} (hv0 : n = v) (hd : zdec cc pc (.iconst n) 1 nx) (kk : GoW K Hp cs sl Q lv (mI v :: st) nx) : GoW K Hp cs sl Q lv (st) pc := by
  obtain ⟨hd, rfl⟩ := hd
  intro H locs ls hH hv
  exact lv_iconst (v := Int32.ofInt v) hk.1 hk.2.1 hd (by rw [hv0]) (kk H locs ls hH hv)
theorem gw_bipush (hk : zOw K cc nL own) {n : Int} {v : Int} (hv0 : (Int8.ofInt n).toInt32 = Int32.ofInt v) (hd : zdec cc pc (.bipush n) 2 nx) (kk : GoW K Hp cs sl Q lv (mI v :: st) nx) : GoW K Hp cs sl Q lv (st) pc := by
  obtain ⟨hd, rfl⟩ := hd
  intro H locs ls hH hv
  exact lv_bipush (v := Int32.ofInt v) hk.1 hk.2.1 hd hv0 (kk H locs ls hH hv)
theorem gw_sipush (hk : zOw K cc nL own) {n : Int} {v : Int} (hv0 : (Int16.ofInt n).toInt32 = Int32.ofInt v) (hd : zdec cc pc (.sipush n) 3 nx) (kk : GoW K Hp cs sl Q lv (mI v :: st) nx) : GoW K Hp cs sl Q lv (st) pc := by
  obtain ⟨hd, rfl⟩ := hd
  intro H locs ls hH hv
  exact lv_sipush (v := Int32.ofInt v) hk.1 hk.2.1 hd hv0 (kk H locs ls hH hv)
theorem gw_lconst (hk : zOw K cc nL own) {n : Fin 2} {v : Int} (hv0 : Int64.ofNat (n : Nat) = Int64.ofInt v) (hd : zdec cc pc (.lconst n) 1 nx) (kk : GoW K Hp cs sl Q lv (mL v :: st) nx) : GoW K Hp cs sl Q lv (st) pc := by
  obtain ⟨hd, rfl⟩ := hd
  intro H locs ls hH hv
  exact lv_lconst (v := Int64.ofInt v) hk.1 hk.2.1 hd hv0 (kk H locs ls hH hv)
theorem gw_ldc (hk : zOw K cc nL own) {ix : Nat} {v : Int} (hw : Cond.constant own ix (Int32.ofInt v) ∈ TBL) (hd : zdec cc pc (.ldc ix) 2 nx) (kk : GoW K Hp cs sl Q lv (mI v :: st) nx) : GoW K Hp cs sl Q lv (st) pc := by
  obtain ⟨hd, rfl⟩ := hd
  intro H locs ls hH hv
  exact lv_ldc hk.1 hk.2.1 hk.2.2.2.1 (hk.2.2.2.2.1 _ hw) hd (kk H locs ls hH hv)
theorem gw_istore_n (hk : zOw K cc nL own) {k : Fin 4} {i : Nat} (hi : (k : Nat) = i) {x : Int} {lv' : List (Nat × Value)} (hn : i < nL) (hl : (i, (mI x : Value)) :: lv.filter (fun q => !(q.1 == i) && !(q.1 + 1 == i && q.2.category == 2)) = lv') (hd : zdec cc pc (.istore_n k) 1 nx) (kk : GoW K Hp cs sl Q lv' st nx) : GoW K Hp cs sl Q lv (mI x :: st) pc := by
  obtain ⟨hd, rfl⟩ := hd
  intro H locs ls hH hv
  exact lv_istore_n hk.1 hk.2.1 hd hi hv (by rw [hk.2.2.1]; exact hn) hl (fun ls2 hv2 => kk H locs ls2 hH hv2)
theorem gw_istore (hk : zOw K cc nL own) {i : Nat} {x : Int} {lv' : List (Nat × Value)} (hn : i < nL) (hl : (i, (mI x : Value)) :: lv.filter (fun q => !(q.1 == i) && !(q.1 + 1 == i && q.2.category == 2)) = lv') (hd : zdec cc pc (.istore i) 2 nx) (kk : GoW K Hp cs sl Q lv' st nx) : GoW K Hp cs sl Q lv (mI x :: st) pc := by
  obtain ⟨hd, rfl⟩ := hd
  intro H locs ls hH hv
  exact lv_istore hk.1 hk.2.1 hd hv (by rw [hk.2.2.1]; exact hn) hl (fun ls2 hv2 => kk H locs ls2 hH hv2)
theorem gw_astore_n (hk : zOw K cc nL own) {k : Fin 4} {i : Nat} (hi : (k : Nat) = i) {x : Nat} {lv' : List (Nat × Value)} (hn : i < nL) (hl : (i, (.ref x : Value)) :: lv.filter (fun q => !(q.1 == i) && !(q.1 + 1 == i && q.2.category == 2)) = lv') (hd : zdec cc pc (.astore_n k) 1 nx) (kk : GoW K Hp cs sl Q lv' st nx) : GoW K Hp cs sl Q lv (.ref x :: st) pc := by
  obtain ⟨hd, rfl⟩ := hd
  intro H locs ls hH hv
  exact lv_astore_n hk.1 hk.2.1 hd hi hv (by rw [hk.2.2.1]; exact hn) hl (fun ls2 hv2 => kk H locs ls2 hH hv2)
theorem gw_iinc (hk : zOw K cc nL own) {i : Nat} {n x : Int} {lv' : List (Nat × Value)} (q : Nat) (hq : lv[q]? = some (i, mI x)) (hn : i < nL) (hl : (i, (mI (wI (x + n)) : Value)) :: lv.filter (fun q => !(q.1 == i) && !(q.1 + 1 == i && q.2.category == 2)) = lv') (hd : zdec cc pc (.iinc i n) 3 nx) (kk : GoW K Hp cs sl Q lv' st nx) : GoW K Hp cs sl Q lv st pc := by
  obtain ⟨hd, rfl⟩ := hd
  intro H locs ls hH hv
  exact lv_iinc (k := q) (v := Int32.ofInt (wI (x + n))) hk.1 hk.2.1 hd hv hq (iadd_v x n) (by rw [hk.2.2.1]; exact hn) hl (fun ls2 hv2 => kk H locs ls2 hH hv2)
theorem gw_iadd (hk : zOw K cc nL own) {x y : Int} (hd : zdec cc pc (.iadd) 1 nx) (kk : GoW K Hp cs sl Q lv (mI (wI (x + y)) :: st) nx) : GoW K Hp cs sl Q lv (mI y :: mI x :: st) pc := by
  obtain ⟨hd, rfl⟩ := hd
  intro H locs ls hH hv
  refine lv_iadd hk.1 hk.2.1 hd ?_
  rw [iadd_v]
  exact kk H locs ls hH hv
theorem gw_isub (hk : zOw K cc nL own) {x y : Int} (hd : zdec cc pc (.isub) 1 nx) (kk : GoW K Hp cs sl Q lv (mI (wI (x - y)) :: st) nx) : GoW K Hp cs sl Q lv (mI y :: mI x :: st) pc := by
  obtain ⟨hd, rfl⟩ := hd
  intro H locs ls hH hv
  refine lv_isub hk.1 hk.2.1 hd ?_
  rw [isub_v]
  exact kk H locs ls hH hv
theorem gw_imul (hk : zOw K cc nL own) {x y : Int} (hd : zdec cc pc (.imul) 1 nx) (kk : GoW K Hp cs sl Q lv (mI (wI (x * y)) :: st) nx) : GoW K Hp cs sl Q lv (mI y :: mI x :: st) pc := by
  obtain ⟨hd, rfl⟩ := hd
  intro H locs ls hH hv
  refine lv_imul hk.1 hk.2.1 hd ?_
  rw [imul_v]
  exact kk H locs ls hH hv
theorem gw_iand (hk : zOw K cc nL own) {x y : Int} (hd : zdec cc pc (.iand) 1 nx) (kk : GoW K Hp cs sl Q lv (mI (anI x y) :: st) nx) : GoW K Hp cs sl Q lv (mI y :: mI x :: st) pc := by
  obtain ⟨hd, rfl⟩ := hd
  intro H locs ls hH hv
  have := kk H locs ls hH hv
  unfold anI at this
  rw [show mI ((_ : Int32).toInt) = Value.int _ from congrArg Value.int (iany_v _).symm] at this
  exact lv_iand hk.1 hk.2.1 hd this
theorem gw_dup (hk : zOw K cc nL own) {v : Value} (hc : v.category = 1) (hd : zdec cc pc (.dup) 1 nx) (kk : GoW K Hp cs sl Q lv (v :: v :: st) nx) : GoW K Hp cs sl Q lv (v :: st) pc := by
  obtain ⟨hd, rfl⟩ := hd
  intro H locs ls hH hv
  exact lv_dup hk.1 hk.2.1 hd hc (kk H locs ls hH hv)
theorem gw_pop (hk : zOw K cc nL own) {v : Value} (hc : v.category = 1) (hd : zdec cc pc (.pop) 1 nx) (kk : GoW K Hp cs sl Q lv (st) nx) : GoW K Hp cs sl Q lv (v :: st) pc := by
  obtain ⟨hd, rfl⟩ := hd
  intro H locs ls hH hv
  exact lv_pop hk.1 hk.2.1 hd hc (kk H locs ls hH hv)
theorem gw_goto (hk : zOw K cc nL own) (hd : zbr cc pc (.goto off) nx off tgt) (kk : GoW K Hp cs sl Q lv st tgt) : GoW K Hp cs sl Q lv st pc := fun H locs ls hH hv => lv_goto hk.1 hk.2.1 hd.1 hd.2.2 (kk H locs ls hH hv)
theorem gw_tin (hk : zOw K cc nL own) {x k dflt lo hi : Int} {offs : Array Int} {len : Nat} (cx : cI x) (hd : decode cc pc = .ok (.tableswitch dflt lo hi offs, len)) (e : x = k) (h1 : ¬ k < lo) (h2 : ¬ hi < k) (ho : offs[(k - lo).toNat]? = some off) (ht : (pc : Int) + off = (tgt : Int)) (kk : GoW K Hp cs sl Q lv st tgt) : GoW K Hp cs sl Q lv (mI x :: st) pc := by
  subst e
  intro H locs ls hH hv
  exact lv_tableIn hk.1 hk.2.1 hd (by rw [tI_oI cx]; exact h1) (by rw [tI_oI cx]; exact h2) (by rw [tI_oI cx]; exact ho) ht (kk H locs ls hH hv)
theorem gw_tout (hk : zOw K cc nL own) {x dflt lo hi : Int} {offs : Array Int} {len : Nat} (cx : cI x) (hd : decode cc pc = .ok (.tableswitch dflt lo hi offs, len)) (h1 : x < lo ∨ hi < x) (ht : (pc : Int) + dflt = (tgt : Int)) (kk : GoW K Hp cs sl Q lv st tgt) : GoW K Hp cs sl Q lv (mI x :: st) pc := by
  intro H locs ls hH hv
  exact lv_tableOut hk.1 hk.2.1 hd (by rw [tI_oI cx]; exact h1) ht (kk H locs ls hH hv)
theorem gw_icmp_ge (hk : zOw K cc nL own) {x y : Int} (cx : cI x) (cy : cI y) (hd : zbr cc pc (.if_icmp .ge off) nx off tgt) (kt : y ≤ x → GoW K Hp cs sl Q lv st tgt) (kf : ¬ (y ≤ x) → GoW K Hp cs sl Q lv st nx) : GoW K Hp cs sl Q lv (mI y :: mI x :: st) pc := by
  obtain ⟨hd, rfl, ht⟩ := hd
  intro H locs ls hH hv
  refine lv_icmp_ge hk.1 hk.2.1 hd ht (fun c => ?_) (fun c => ?_)
  · exact kt ((ile_v cy cx).mp c) H locs ls hH hv
  · exact kf (fun e => c ((ile_v cy cx).mpr e)) H locs ls hH hv
theorem gw_icmp_gt (hk : zOw K cc nL own) {x y : Int} (cx : cI x) (cy : cI y) (hd : zbr cc pc (.if_icmp .gt off) nx off tgt) (kt : y < x → GoW K Hp cs sl Q lv st tgt) (kf : ¬ (y < x) → GoW K Hp cs sl Q lv st nx) : GoW K Hp cs sl Q lv (mI y :: mI x :: st) pc := by
  obtain ⟨hd, rfl, ht⟩ := hd
  intro H locs ls hH hv
  refine lv_icmp_gt hk.1 hk.2.1 hd ht (fun c => ?_) (fun c => ?_)
  · exact kt ((ilt_v cy cx).mp c) H locs ls hH hv
  · exact kf (fun e => c ((ilt_v cy cx).mpr e)) H locs ls hH hv
theorem gw_icmp_eq (hk : zOw K cc nL own) {x y : Int} (cx : cI x) (cy : cI y) (hd : zbr cc pc (.if_icmp .eq off) nx off tgt) (kt : x = y → GoW K Hp cs sl Q lv st tgt) (kf : ¬ (x = y) → GoW K Hp cs sl Q lv st nx) : GoW K Hp cs sl Q lv (mI y :: mI x :: st) pc := by
  obtain ⟨hd, rfl, ht⟩ := hd
  intro H locs ls hH hv
  refine lv_icmp_eq hk.1 hk.2.1 hd ht (fun c => ?_) (fun c => ?_)
  · exact kt ((ieq_v cx cy).mp c) H locs ls hH hv
  · exact kf (fun e => c ((ieq_v cx cy).mpr e)) H locs ls hH hv
theorem gw_icmp_ne (hk : zOw K cc nL own) {x y : Int} (cx : cI x) (cy : cI y) (hd : zbr cc pc (.if_icmp .ne off) nx off tgt) (kt : x ≠ y → GoW K Hp cs sl Q lv st tgt) (kf : ¬ (x ≠ y) → GoW K Hp cs sl Q lv st nx) : GoW K Hp cs sl Q lv (mI y :: mI x :: st) pc := by
  obtain ⟨hd, rfl, ht⟩ := hd
  intro H locs ls hH hv
  refine lv_icmp_ne hk.1 hk.2.1 hd ht (fun c => ?_) (fun c => ?_)
  · exact kt (fun e => c ((ieq_v cx cy).mpr e)) H locs ls hH hv
  · exact kf (fun e => e ((ieq_v cx cy).mp c)) H locs ls hH hv
theorem gw_icmp_lt (hk : zOw K cc nL own) {x y : Int} (cx : cI x) (cy : cI y) (hd : zbr cc pc (.if_icmp .lt off) nx off tgt) (kt : x < y → GoW K Hp cs sl Q lv st tgt) (kf : ¬ (x < y) → GoW K Hp cs sl Q lv st nx) : GoW K Hp cs sl Q lv (mI y :: mI x :: st) pc := by
  obtain ⟨hd, rfl, ht⟩ := hd
  intro H locs ls hH hv
  refine lv_icmp_lt hk.1 hk.2.1 hd ht (fun c => ?_) (fun c => ?_)
  · exact kt ((ilt_v cx cy).mp c) H locs ls hH hv
  · exact kf (fun e => c ((ilt_v cx cy).mpr e)) H locs ls hH hv
theorem gw_icmp_le (hk : zOw K cc nL own) {x y : Int} (cx : cI x) (cy : cI y) (hd : zbr cc pc (.if_icmp .le off) nx off tgt) (kt : x ≤ y → GoW K Hp cs sl Q lv st tgt) (kf : ¬ (x ≤ y) → GoW K Hp cs sl Q lv st nx) : GoW K Hp cs sl Q lv (mI y :: mI x :: st) pc := by
  obtain ⟨hd, rfl, ht⟩ := hd
  intro H locs ls hH hv
  refine lv_icmp_le hk.1 hk.2.1 hd ht (fun c => ?_) (fun c => ?_)
  · exact kt ((ile_v cx cy).mp c) H locs ls hH hv
  · exact kf (fun e => c ((ile_v cx cy).mpr e)) H locs ls hH hv
end ROWSW
