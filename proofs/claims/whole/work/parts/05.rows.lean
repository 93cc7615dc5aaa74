theorem zite {α : Type} {c : Prop} [Decidable c] {A B : Option α} {o : α} (h : (if c then A else B) = some o) : (c ∧ A = some o) ∨ (¬ c ∧ B = some o) := by
  by_cases e : c
  · rw [if_pos e] at h; exact Or.inl ⟨e, h⟩
  · rw [if_neg e] at h; exact Or.inr ⟨e, h⟩
theorem zbind {α β : Type} {f : Option α} {F : α → Option β} {o : β} (h : f.bind F = some o) : ∃ a, f = some a ∧ F a = some o := by
  cases f with
  | none => cases h
  | some a => exact ⟨a, rfl, h⟩
theorem zok_I {t : Nat} {x : Int} (h : zok t x) (ht : t = 0 ∨ t = 3 ∨ t = 4) : cI x := by
  rcases ht with rfl | rfl | rfl
  · exact h
  · exact h
  · rcases h with rfl | rfl <;> (unfold cI; omega)
theorem nar4 {x : Int} (h : zok 4 x) : narrow .boolean (mI x) = mI x := by
  rcases h with rfl | rfl
  · first | rfl | decide | (simp [narrow, mI]; done) | (simp [narrow]; decide)
  · first | rfl | decide | exact narrow_b1 | (simp [narrow, mI]; done) | (simp [narrow]; decide)
theorem b01 {x : Int} (h : zok 4 x) : cI x := zok_I h (Or.inr (Or.inr rfl))
section ROWS
variable {K : zK} {kx : Nat → Nat × Nat} {m : zM} {lv : List (Nat × Value)} {st : List Value} {pc nx tgt : Nat} {off : Int} {ρ : zR} {cc : ByteArray} {nL d : Nat} {ret : Option FieldType} {own : String} {β : Type} {o : β}
theorem GoAt.sub {lv' : List (Nat × Value)} (ks : List Nat) (hl : lv_pick lv ks = lv') (kk : GoAt K m lv' st pc ρ) : GoAt K m lv st pc ρ := fun H locs ls hH hv => kk H locs ls hH (lv_sub hv ks hl)
theorem g_iload_n (hk : zOk K kx cc nL ret own d) {k : Fin 4} {x : Int} (q : Nat) (hl : lv[q]? = some ((k : Nat), mI x)) (hd : zdec cc pc (.iload_n k) 1 nx) (kk : GoAt K m lv (mI x :: st) nx ρ) : GoAt K m lv (st) pc ρ := by
  obtain ⟨hd, rfl⟩ := hd
  intro H locs ls hH hv
  exact lv_iload_n hk.1 hk.2.1 hd rfl (lv_at hv q hl) (kk H locs ls hH hv)
theorem g_iload (hk : zOk K kx cc nL ret own d) {k : Nat} {x : Int} (q : Nat) (hl : lv[q]? = some (k, mI x)) (hd : zdec cc pc (.iload k) 2 nx) (kk : GoAt K m lv (mI x :: st) nx ρ) : GoAt K m lv (st) pc ρ := by
  obtain ⟨hd, rfl⟩ := hd
  intro H locs ls hH hv
  exact lv_iload hk.1 hk.2.1 hd (lv_at hv q hl) (kk H locs ls hH hv)
theorem g_lload_n (hk : zOk K kx cc nL ret own d) {k : Fin 4} {x : Int} (q : Nat) (hl : lv[q]? = some ((k : Nat), mL x)) (hd : zdec cc pc (.lload_n k) 1 nx) (kk : GoAt K m lv (mL x :: st) nx ρ) : GoAt K m lv (st) pc ρ := by
  obtain ⟨hd, rfl⟩ := hd
  intro H locs ls hH hv
  exact lv_lload_n hk.1 hk.2.1 hd rfl (lv_at hv q hl) (kk H locs ls hH hv)
theorem g_lload (hk : zOk K kx cc nL ret own d) {k : Nat} {x : Int} (q : Nat) (hl : lv[q]? = some (k, mL x)) (hd : zdec cc pc (.lload k) 2 nx) (kk : GoAt K m lv (mL x :: st) nx ρ) : GoAt K m lv (st) pc ρ := by
  obtain ⟨hd, rfl⟩ := hd
  intro H locs ls hH hv
  exact lv_lload hk.1 hk.2.1 hd (lv_at hv q hl) (kk H locs ls hH hv)
theorem g_aload_n (hk : zOk K kx cc nL ret own d) {k : Fin 4} {x : Nat} (q : Nat) (hl : lv[q]? = some ((k : Nat), .ref x)) (hd : zdec cc pc (.aload_n k) 1 nx) (kk : GoAt K m lv (.ref x :: st) nx ρ) : GoAt K m lv (st) pc ρ := by
  obtain ⟨hd, rfl⟩ := hd
  intro H locs ls hH hv
  exact lv_aload_n hk.1 hk.2.1 hd rfl (lv_at hv q hl) (kk H locs ls hH hv)
theorem g_aload (hk : zOk K kx cc nL ret own d) {k : Nat} {x : Nat} (q : Nat) (hl : lv[q]? = some (k, .ref x)) (hd : zdec cc pc (.aload k) 2 nx) (kk : GoAt K m lv (.ref x :: st) nx ρ) : GoAt K m lv (st) pc ρ := by
  obtain ⟨hd, rfl⟩ := hd
  intro H locs ls hH hv
  exact lv_aload hk.1 hk.2.1 hd (lv_at hv q hl) (kk H locs ls hH hv)
theorem g_iconst (hk : zOk K kx cc nL ret own d) {n : Int} {v : Int} (hv0 : n = v) (hd : zdec cc pc (.iconst n) 1 nx) (kk : GoAt K m lv (mI v :: st) nx ρ) : GoAt K m lv (st) pc ρ := by
  obtain ⟨hd, rfl⟩ := hd
  intro H locs ls hH hv
  exact lv_iconst (v := Int32.ofInt v) hk.1 hk.2.1 hd (by rw [hv0]) (kk H locs ls hH hv)
theorem g_bipush (hk : zOk K kx cc nL ret own d) {n : Int} {v : Int} (hv0 : (Int8.ofInt n).toInt32 = Int32.ofInt v) (hd : zdec cc pc (.bipush n) 2 nx) (kk : GoAt K m lv (mI v :: st) nx ρ) : GoAt K m lv (st) pc ρ := by
  obtain ⟨hd, rfl⟩ := hd
  intro H locs ls hH hv
  exact lv_bipush (v := Int32.ofInt v) hk.1 hk.2.1 hd hv0 (kk H locs ls hH hv)
theorem g_sipush (hk : zOk K kx cc nL ret own d) {n : Int} {v : Int} (hv0 : (Int16.ofInt n).toInt32 = Int32.ofInt v) (hd : zdec cc pc (.sipush n) 3 nx) (kk : GoAt K m lv (mI v :: st) nx ρ) : GoAt K m lv (st) pc ρ := by
  obtain ⟨hd, rfl⟩ := hd
  intro H locs ls hH hv
  exact lv_sipush (v := Int32.ofInt v) hk.1 hk.2.1 hd hv0 (kk H locs ls hH hv)
theorem g_lconst (hk : zOk K kx cc nL ret own d) {n : Fin 2} {v : Int} (hv0 : Int64.ofNat (n : Nat) = Int64.ofInt v) (hd : zdec cc pc (.lconst n) 1 nx) (kk : GoAt K m lv (mL v :: st) nx ρ) : GoAt K m lv (st) pc ρ := by
  obtain ⟨hd, rfl⟩ := hd
  intro H locs ls hH hv
  exact lv_lconst (v := Int64.ofInt v) hk.1 hk.2.1 hd hv0 (kk H locs ls hH hv)
theorem g_ldc (hk : zOk K kx cc nL ret own d) {ix : Nat} {v : Int} (hw : Cond.constant own ix (Int32.ofInt v) ∈ TBL) (hd : zdec cc pc (.ldc ix) 2 nx) (kk : GoAt K m lv (mI v :: st) nx ρ) : GoAt K m lv (st) pc ρ := by
  obtain ⟨hd, rfl⟩ := hd
  intro H locs ls hH hv
  exact lv_ldc hk.1 hk.2.1 hk.2.2.2.1 (hk.2.2.2.2.1 _ hw) hd (kk H locs ls hH hv)
theorem g_ldcw (hk : zOk K kx cc nL ret own d) {ix : Nat} {v : Int} (hw : Cond.constant own ix (Int32.ofInt v) ∈ TBL) (hd : zdec cc pc (.ldc_w ix) 3 nx) (kk : GoAt K m lv (mI v :: st) nx ρ) : GoAt K m lv (st) pc ρ := by
  obtain ⟨hd, rfl⟩ := hd
  intro H locs ls hH hv
  exact lv_ldcw hk.1 hk.2.1 hk.2.2.2.1 (hk.2.2.2.2.1 _ hw) hd (kk H locs ls hH hv)
theorem g_ldc2 (hk : zOk K kx cc nL ret own d) {ix : Nat} {v : Int} (hw : Cond.constantLong own ix (Int64.ofInt v) ∈ TBL) (hd : zdec cc pc (.ldc2_w ix) 3 nx) (kk : GoAt K m lv (mL v :: st) nx ρ) : GoAt K m lv (st) pc ρ := by
  obtain ⟨hd, rfl⟩ := hd
  intro H locs ls hH hv
  exact lv_ldc2 hk.1 hk.2.1 hk.2.2.2.1 (hk.2.2.2.2.1 _ hw) hd (kk H locs ls hH hv)
theorem g_istore_n (hk : zOk K kx cc nL ret own d) {k : Fin 4} {i : Nat} (hi : (k : Nat) = i) {x : Int} {lv' : List (Nat × Value)} (hn : i < nL) (hl : (i, (mI x : Value)) :: lv.filter (fun q => !(q.1 == i) && !(q.1 + 1 == i && q.2.category == 2)) = lv') (hd : zdec cc pc (.istore_n k) 1 nx) (kk : GoAt K m lv' st nx ρ) : GoAt K m lv (mI x :: st) pc ρ := by
  obtain ⟨hd, rfl⟩ := hd
  intro H locs ls hH hv
  exact lv_istore_n hk.1 hk.2.1 hd hi hv (by rw [hk.2.2.1]; exact hn) hl (fun ls2 hv2 => kk H locs ls2 hH hv2)
theorem g_istore (hk : zOk K kx cc nL ret own d) {i : Nat} {x : Int} {lv' : List (Nat × Value)} (hn : i < nL) (hl : (i, (mI x : Value)) :: lv.filter (fun q => !(q.1 == i) && !(q.1 + 1 == i && q.2.category == 2)) = lv') (hd : zdec cc pc (.istore i) 2 nx) (kk : GoAt K m lv' st nx ρ) : GoAt K m lv (mI x :: st) pc ρ := by
  obtain ⟨hd, rfl⟩ := hd
  intro H locs ls hH hv
  exact lv_istore hk.1 hk.2.1 hd hv (by rw [hk.2.2.1]; exact hn) hl (fun ls2 hv2 => kk H locs ls2 hH hv2)
theorem g_lstore_n (hk : zOk K kx cc nL ret own d) {k : Fin 4} {i : Nat} (hi : (k : Nat) = i) {x : Int} {lv' : List (Nat × Value)} (hn : i + 1 < nL) (hl : (i, (mL x : Value)) :: lv.filter (fun q => !(q.1 == i) && (!(q.1 == i + 1) && !(q.1 + 1 == i && q.2.category == 2))) = lv') (hd : zdec cc pc (.lstore_n k) 1 nx) (kk : GoAt K m lv' st nx ρ) : GoAt K m lv (mL x :: st) pc ρ := by
  obtain ⟨hd, rfl⟩ := hd
  intro H locs ls hH hv
  exact lv_lstore_n hk.1 hk.2.1 hd hi hv (by rw [hk.2.2.1]; exact hn) hl (fun ls2 hv2 => kk H locs ls2 hH hv2)
theorem g_lstore (hk : zOk K kx cc nL ret own d) {i : Nat} {x : Int} {lv' : List (Nat × Value)} (hn : i + 1 < nL) (hl : (i, (mL x : Value)) :: lv.filter (fun q => !(q.1 == i) && (!(q.1 == i + 1) && !(q.1 + 1 == i && q.2.category == 2))) = lv') (hd : zdec cc pc (.lstore i) 2 nx) (kk : GoAt K m lv' st nx ρ) : GoAt K m lv (mL x :: st) pc ρ := by
  obtain ⟨hd, rfl⟩ := hd
  intro H locs ls hH hv
  exact lv_lstore hk.1 hk.2.1 hd hv (by rw [hk.2.2.1]; exact hn) hl (fun ls2 hv2 => kk H locs ls2 hH hv2)
theorem g_astore_n (hk : zOk K kx cc nL ret own d) {k : Fin 4} {i : Nat} (hi : (k : Nat) = i) {x : Nat} {lv' : List (Nat × Value)} (hn : i < nL) (hl : (i, (.ref x : Value)) :: lv.filter (fun q => !(q.1 == i) && !(q.1 + 1 == i && q.2.category == 2)) = lv') (hd : zdec cc pc (.astore_n k) 1 nx) (kk : GoAt K m lv' st nx ρ) : GoAt K m lv (.ref x :: st) pc ρ := by
  obtain ⟨hd, rfl⟩ := hd
  intro H locs ls hH hv
  exact lv_astore_n hk.1 hk.2.1 hd hi hv (by rw [hk.2.2.1]; exact hn) hl (fun ls2 hv2 => kk H locs ls2 hH hv2)
theorem g_astore (hk : zOk K kx cc nL ret own d) {i : Nat} {x : Nat} {lv' : List (Nat × Value)} (hn : i < nL) (hl : (i, (.ref x : Value)) :: lv.filter (fun q => !(q.1 == i) && !(q.1 + 1 == i && q.2.category == 2)) = lv') (hd : zdec cc pc (.astore i) 2 nx) (kk : GoAt K m lv' st nx ρ) : GoAt K m lv (.ref x :: st) pc ρ := by
  obtain ⟨hd, rfl⟩ := hd
  intro H locs ls hH hv
  exact lv_astore hk.1 hk.2.1 hd hv (by rw [hk.2.2.1]; exact hn) hl (fun ls2 hv2 => kk H locs ls2 hH hv2)
theorem g_iinc (hk : zOk K kx cc nL ret own d) {i : Nat} {n x : Int} {lv' : List (Nat × Value)} (q : Nat) (hq : lv[q]? = some (i, mI x)) (hn : i < nL) (hl : (i, (mI (wI (x + n)) : Value)) :: lv.filter (fun q => !(q.1 == i) && !(q.1 + 1 == i && q.2.category == 2)) = lv') (hd : zdec cc pc (.iinc i n) 3 nx) (kk : GoAt K m lv' st nx ρ) : GoAt K m lv st pc ρ := by
  obtain ⟨hd, rfl⟩ := hd
  intro H locs ls hH hv
  exact lv_iinc (k := q) (v := Int32.ofInt (wI (x + n))) hk.1 hk.2.1 hd hv hq (iadd_v x n) (by rw [hk.2.2.1]; exact hn) hl (fun ls2 hv2 => kk H locs ls2 hH hv2)
theorem g_iadd (hk : zOk K kx cc nL ret own d) {x y : Int} (hd : zdec cc pc (.iadd) 1 nx) (kk : GoAt K m lv (mI (wI (x + y)) :: st) nx ρ) : GoAt K m lv (mI y :: mI x :: st) pc ρ := by
  obtain ⟨hd, rfl⟩ := hd
  intro H locs ls hH hv
  refine lv_iadd hk.1 hk.2.1 hd ?_
  rw [iadd_v]
  exact kk H locs ls hH hv
theorem g_isub (hk : zOk K kx cc nL ret own d) {x y : Int} (hd : zdec cc pc (.isub) 1 nx) (kk : GoAt K m lv (mI (wI (x - y)) :: st) nx ρ) : GoAt K m lv (mI y :: mI x :: st) pc ρ := by
  obtain ⟨hd, rfl⟩ := hd
  intro H locs ls hH hv
  refine lv_isub hk.1 hk.2.1 hd ?_
  rw [isub_v]
  exact kk H locs ls hH hv
theorem g_imul (hk : zOk K kx cc nL ret own d) {x y : Int} (hd : zdec cc pc (.imul) 1 nx) (kk : GoAt K m lv (mI (wI (x * y)) :: st) nx ρ) : GoAt K m lv (mI y :: mI x :: st) pc ρ := by
  obtain ⟨hd, rfl⟩ := hd
  intro H locs ls hH hv
  refine lv_imul hk.1 hk.2.1 hd ?_
  rw [imul_v]
  exact kk H locs ls hH hv
theorem g_ladd (hk : zOk K kx cc nL ret own d) {x y : Int} (hd : zdec cc pc (.ladd) 1 nx) (kk : GoAt K m lv (mL (wL (x + y)) :: st) nx ρ) : GoAt K m lv (mL y :: mL x :: st) pc ρ := by
  obtain ⟨hd, rfl⟩ := hd
  intro H locs ls hH hv
  refine lv_ladd hk.1 hk.2.1 hd ?_
  rw [ladd_v]
  exact kk H locs ls hH hv
theorem g_lsub (hk : zOk K kx cc nL ret own d) {x y : Int} (hd : zdec cc pc (.lsub) 1 nx) (kk : GoAt K m lv (mL (wL (x - y)) :: st) nx ρ) : GoAt K m lv (mL y :: mL x :: st) pc ρ := by
  obtain ⟨hd, rfl⟩ := hd
  intro H locs ls hH hv
  refine lv_lsub hk.1 hk.2.1 hd ?_
  rw [lsub_v]
  exact kk H locs ls hH hv
theorem g_lmul (hk : zOk K kx cc nL ret own d) {x y : Int} (hd : zdec cc pc (.lmul) 1 nx) (kk : GoAt K m lv (mL (wL (x * y)) :: st) nx ρ) : GoAt K m lv (mL y :: mL x :: st) pc ρ := by
  obtain ⟨hd, rfl⟩ := hd
  intro H locs ls hH hv
  refine lv_lmul hk.1 hk.2.1 hd ?_
  rw [lmul_v]
  exact kk H locs ls hH hv
theorem g_iand (hk : zOk K kx cc nL ret own d) {x y : Int} (hd : zdec cc pc (.iand) 1 nx) (kk : GoAt K m lv (mI (anI x y) :: st) nx ρ) : GoAt K m lv (mI y :: mI x :: st) pc ρ := by
  obtain ⟨hd, rfl⟩ := hd
  intro H locs ls hH hv
  have := kk H locs ls hH hv
  unfold anI at this
  rw [show mI ((_ : Int32).toInt) = Value.int _ from congrArg Value.int (iany_v _).symm] at this
  exact lv_iand hk.1 hk.2.1 hd this
theorem g_ior (hk : zOk K kx cc nL ret own d) {x y : Int} (hd : zdec cc pc (.ior) 1 nx) (kk : GoAt K m lv (mI (orI x y) :: st) nx ρ) : GoAt K m lv (mI y :: mI x :: st) pc ρ := by
  obtain ⟨hd, rfl⟩ := hd
  intro H locs ls hH hv
  have := kk H locs ls hH hv
  unfold orI at this
  rw [show mI ((_ : Int32).toInt) = Value.int _ from congrArg Value.int (iany_v _).symm] at this
  exact lv_ior hk.1 hk.2.1 hd this
theorem g_ixor (hk : zOk K kx cc nL ret own d) {x y : Int} (hd : zdec cc pc (.ixor) 1 nx) (kk : GoAt K m lv (mI (xoI x y) :: st) nx ρ) : GoAt K m lv (mI y :: mI x :: st) pc ρ := by
  obtain ⟨hd, rfl⟩ := hd
  intro H locs ls hH hv
  have := kk H locs ls hH hv
  unfold xoI at this
  rw [show mI ((_ : Int32).toInt) = Value.int _ from congrArg Value.int (iany_v _).symm] at this
  exact lv_ixor hk.1 hk.2.1 hd this
theorem g_ishl (hk : zOk K kx cc nL ret own d) {x y : Int} (hd : zdec cc pc (.ishl) 1 nx) (kk : GoAt K m lv (mI (slI x y) :: st) nx ρ) : GoAt K m lv (mI y :: mI x :: st) pc ρ := by
  obtain ⟨hd, rfl⟩ := hd
  intro H locs ls hH hv
  have := kk H locs ls hH hv
  unfold slI at this
  rw [show mI ((_ : Int32).toInt) = Value.int _ from congrArg Value.int (iany_v _).symm] at this
  exact lv_ishl hk.1 hk.2.1 hd this
theorem g_ishr (hk : zOk K kx cc nL ret own d) {x y : Int} (hd : zdec cc pc (.ishr) 1 nx) (kk : GoAt K m lv (mI (srI x y) :: st) nx ρ) : GoAt K m lv (mI y :: mI x :: st) pc ρ := by
  obtain ⟨hd, rfl⟩ := hd
  intro H locs ls hH hv
  have := kk H locs ls hH hv
  unfold srI at this
  rw [show mI ((_ : Int32).toInt) = Value.int _ from congrArg Value.int (iany_v _).symm] at this
  exact lv_ishr hk.1 hk.2.1 hd this
theorem g_land (hk : zOk K kx cc nL ret own d) {x y : Int} (hd : zdec cc pc (.land) 1 nx) (kk : GoAt K m lv (mL (anL x y) :: st) nx ρ) : GoAt K m lv (mL y :: mL x :: st) pc ρ := by
  obtain ⟨hd, rfl⟩ := hd
  intro H locs ls hH hv
  have := kk H locs ls hH hv
  unfold anL at this
  rw [show mL ((_ : Int64).toInt) = Value.long _ from congrArg Value.long (lany_v _).symm] at this
  exact lv_land hk.1 hk.2.1 hd this
theorem g_lor (hk : zOk K kx cc nL ret own d) {x y : Int} (hd : zdec cc pc (.lor) 1 nx) (kk : GoAt K m lv (mL (orL x y) :: st) nx ρ) : GoAt K m lv (mL y :: mL x :: st) pc ρ := by
  obtain ⟨hd, rfl⟩ := hd
  intro H locs ls hH hv
  have := kk H locs ls hH hv
  unfold orL at this
  rw [show mL ((_ : Int64).toInt) = Value.long _ from congrArg Value.long (lany_v _).symm] at this
  exact lv_lor hk.1 hk.2.1 hd this
theorem g_iushr (hk : zOk K kx cc nL ret own d) {x y : Int} (hd : zdec cc pc (.iushr) 1 nx) (kk : GoAt K m lv (mI (usI x y) :: st) nx ρ) : GoAt K m lv (mI y :: mI x :: st) pc ρ := by
  obtain ⟨hd, rfl⟩ := hd
  intro H locs ls hH hv
  exact lv_iushr hk.1 hk.2.1 hd (iany_v _) (kk H locs ls hH hv)
theorem g_lshl (hk : zOk K kx cc nL ret own d) {x y : Int} (hd : zdec cc pc (.lshl) 1 nx) (kk : GoAt K m lv (mL (slL x y) :: st) nx ρ) : GoAt K m lv (mI y :: mL x :: st) pc ρ := by
  obtain ⟨hd, rfl⟩ := hd
  intro H locs ls hH hv
  exact lv_lshl hk.1 hk.2.1 hd (lany_v _) (kk H locs ls hH hv)
theorem g_lshr (hk : zOk K kx cc nL ret own d) {x y : Int} (hd : zdec cc pc (.lshr) 1 nx) (kk : GoAt K m lv (mL (srL x y) :: st) nx ρ) : GoAt K m lv (mI y :: mL x :: st) pc ρ := by
  obtain ⟨hd, rfl⟩ := hd
  intro H locs ls hH hv
  exact lv_lshr hk.1 hk.2.1 hd (lany_v _) (kk H locs ls hH hv)
theorem g_ineg (hk : zOk K kx cc nL ret own d) {x : Int} (hd : zdec cc pc (.ineg) 1 nx) (kk : GoAt K m lv (mI (wI (-x)) :: st) nx ρ) : GoAt K m lv (mI x :: st) pc ρ := by
  obtain ⟨hd, rfl⟩ := hd
  intro H locs ls hH hv
  refine lv_ineg hk.1 hk.2.1 hd ?_
  rw [ineg_v]
  exact kk H locs ls hH hv
theorem g_idiv (hk : zOk K kx cc nL ret own d) {x y : Int} (cy : cI y) (hy : y ≠ 0) (hd : zdec cc pc (.idiv) 1 nx) (kk : GoAt K m lv (mI (dvI x y) :: st) nx ρ) : GoAt K m lv (mI y :: mI x :: st) pc ρ := by
  obtain ⟨hd, rfl⟩ := hd
  intro H locs ls hH hv
  have := kk H locs ls hH hv
  unfold dvI at this
  rw [show mI ((_ : Int32).toInt) = Value.int _ from congrArg Value.int (iany_v _).symm] at this
  exact lv_idiv hk.1 hk.2.1 hd (fun e => hy ((ieq_v cy (by unfold cI; omega)).mp e)) this
theorem g_irem (hk : zOk K kx cc nL ret own d) {x y : Int} (cy : cI y) (hy : y ≠ 0) (hd : zdec cc pc (.irem) 1 nx) (kk : GoAt K m lv (mI (rmI x y) :: st) nx ρ) : GoAt K m lv (mI y :: mI x :: st) pc ρ := by
  obtain ⟨hd, rfl⟩ := hd
  intro H locs ls hH hv
  have := kk H locs ls hH hv
  unfold rmI at this
  rw [show mI ((_ : Int32).toInt) = Value.int _ from congrArg Value.int (iany_v _).symm] at this
  exact lv_irem hk.1 hk.2.1 hd (fun e => hy ((ieq_v cy (by unfold cI; omega)).mp e)) this
theorem g_ldiv (hk : zOk K kx cc nL ret own d) {x y : Int} (cy : cL y) (hy : y ≠ 0) (hd : zdec cc pc (.ldiv) 1 nx) (kk : GoAt K m lv (mL (dvL x y) :: st) nx ρ) : GoAt K m lv (mL y :: mL x :: st) pc ρ := by
  obtain ⟨hd, rfl⟩ := hd
  intro H locs ls hH hv
  have := kk H locs ls hH hv
  unfold dvL at this
  rw [show mL ((_ : Int64).toInt) = Value.long _ from congrArg Value.long (lany_v _).symm] at this
  exact lv_ldiv hk.1 hk.2.1 hd (fun e => hy ((leq_v cy (by unfold cL; omega)).mp e)) this
theorem g_lrem (hk : zOk K kx cc nL ret own d) {x y : Int} (cy : cL y) (hy : y ≠ 0) (hd : zdec cc pc (.lrem) 1 nx) (kk : GoAt K m lv (mL (rmL x y) :: st) nx ρ) : GoAt K m lv (mL y :: mL x :: st) pc ρ := by
  obtain ⟨hd, rfl⟩ := hd
  intro H locs ls hH hv
  have := kk H locs ls hH hv
  unfold rmL at this
  rw [show mL ((_ : Int64).toInt) = Value.long _ from congrArg Value.long (lany_v _).symm] at this
  exact lv_lrem hk.1 hk.2.1 hd (fun e => hy ((leq_v cy (by unfold cL; omega)).mp e)) this
theorem g_i2l (hk : zOk K kx cc nL ret own d) {x : Int} (cx : cI x) (hd : zdec cc pc (.i2l) 1 nx) (kk : GoAt K m lv (mL x :: st) nx ρ) : GoAt K m lv (mI x :: st) pc ρ := by
  obtain ⟨hd, rfl⟩ := hd
  intro H locs ls hH hv
  exact lv_i2l hk.1 hk.2.1 hd (i2l_v cx) (kk H locs ls hH hv)
theorem g_l2i (hk : zOk K kx cc nL ret own d) {x : Int} (cx : cL x) (hd : zdec cc pc (.l2i) 1 nx) (kk : GoAt K m lv (mI (wI x) :: st) nx ρ) : GoAt K m lv (mL x :: st) pc ρ := by
  obtain ⟨hd, rfl⟩ := hd
  intro H locs ls hH hv
  exact lv_l2i hk.1 hk.2.1 hd (l2i_v cx) (kk H locs ls hH hv)
theorem g_dup (hk : zOk K kx cc nL ret own d) {v : Value} (hc : v.category = 1) (hd : zdec cc pc (.dup) 1 nx) (kk : GoAt K m lv (v :: v :: st) nx ρ) : GoAt K m lv (v :: st) pc ρ := by
  obtain ⟨hd, rfl⟩ := hd
  intro H locs ls hH hv
  exact lv_dup hk.1 hk.2.1 hd hc (kk H locs ls hH hv)
theorem g_dup2 (hk : zOk K kx cc nL ret own d) {v w : Value} (hc : v.category = 1) (hw : w.category = 1) (hd : zdec cc pc (.dup2) 1 nx) (kk : GoAt K m lv (v :: w :: v :: w :: st) nx ρ) : GoAt K m lv (v :: w :: st) pc ρ := by
  obtain ⟨hd, rfl⟩ := hd
  intro H locs ls hH hv
  exact lv_dup2_11 hk.1 hk.2.1 hd hc hw (kk H locs ls hH hv)
theorem g_pop (hk : zOk K kx cc nL ret own d) {v : Value} (hc : v.category = 1) (hd : zdec cc pc (.pop) 1 nx) (kk : GoAt K m lv (st) nx ρ) : GoAt K m lv (v :: st) pc ρ := by
  obtain ⟨hd, rfl⟩ := hd
  intro H locs ls hH hv
  exact lv_pop hk.1 hk.2.1 hd hc (kk H locs ls hH hv)
theorem g_icmp_eq (hk : zOk K kx cc nL ret own d) {x y : Int} (cx : cI x) (cy : cI y) {A B : Option β} (hd : zbr cc pc (.if_icmp .eq off) nx off tgt) (h : (if x = y then A else B) = some o) (kt : x = y → A = some o → GoAt K m lv st tgt ρ) (kf : ¬ x = y → B = some o → GoAt K m lv st nx ρ) : GoAt K m lv (mI y :: mI x :: st) pc ρ := by
  obtain ⟨hd, rfl, ht⟩ := hd
  intro H locs ls hH hv
  refine lv_icmp_eq hk.1 hk.2.1 hd ht (fun c => ?_) (fun c => ?_)
  all_goals (rw [ieq_v cx cy] at c)
  · have c : x = y := by first | exact c | omega
    rw [if_pos c] at h
    exact kt c h H locs ls hH hv
  · have c : ¬ x = y := by first | exact c | omega
    rw [if_neg c] at h
    exact kf c h H locs ls hH hv
theorem g_icmp_ne (hk : zOk K kx cc nL ret own d) {x y : Int} (cx : cI x) (cy : cI y) {A B : Option β} (hd : zbr cc pc (.if_icmp .ne off) nx off tgt) (h : (if x = y then A else B) = some o) (kt : x = y → A = some o → GoAt K m lv st nx ρ) (kf : ¬ x = y → B = some o → GoAt K m lv st tgt ρ) : GoAt K m lv (mI y :: mI x :: st) pc ρ := by
  obtain ⟨hd, rfl, ht⟩ := hd
  intro H locs ls hH hv
  refine lv_icmp_ne hk.1 hk.2.1 hd ht (fun c => ?_) (fun c => ?_)
  all_goals (rw [ieq_v cx cy] at c)
  · have c : ¬ x = y := by first | exact c | omega
    rw [if_neg c] at h
    exact kf c h H locs ls hH hv
  · have c : x = y := by first | exact c | omega
    rw [if_pos c] at h
    exact kt c h H locs ls hH hv
theorem g_icmp_lt (hk : zOk K kx cc nL ret own d) {x y : Int} (cx : cI x) (cy : cI y) {A B : Option β} (hd : zbr cc pc (.if_icmp .lt off) nx off tgt) (h : (if x < y then A else B) = some o) (kt : x < y → A = some o → GoAt K m lv st tgt ρ) (kf : ¬ x < y → B = some o → GoAt K m lv st nx ρ) : GoAt K m lv (mI y :: mI x :: st) pc ρ := by
  obtain ⟨hd, rfl, ht⟩ := hd
  intro H locs ls hH hv
  refine lv_icmp_lt hk.1 hk.2.1 hd ht (fun c => ?_) (fun c => ?_)
  all_goals (rw [ilt_v cx cy] at c)
  · have c : x < y := by first | exact c | omega
    rw [if_pos c] at h
    exact kt c h H locs ls hH hv
  · have c : ¬ x < y := by first | exact c | omega
    rw [if_neg c] at h
    exact kf c h H locs ls hH hv
theorem g_icmp_ge (hk : zOk K kx cc nL ret own d) {x y : Int} (cx : cI x) (cy : cI y) {A B : Option β} (hd : zbr cc pc (.if_icmp .ge off) nx off tgt) (h : (if x < y then A else B) = some o) (kt : x < y → A = some o → GoAt K m lv st nx ρ) (kf : ¬ x < y → B = some o → GoAt K m lv st tgt ρ) : GoAt K m lv (mI y :: mI x :: st) pc ρ := by
  obtain ⟨hd, rfl, ht⟩ := hd
  intro H locs ls hH hv
  refine lv_icmp_ge hk.1 hk.2.1 hd ht (fun c => ?_) (fun c => ?_)
  all_goals (rw [ile_v cy cx] at c)
  · have c : ¬ x < y := by first | exact c | omega
    rw [if_neg c] at h
    exact kf c h H locs ls hH hv
  · have c : x < y := by first | exact c | omega
    rw [if_pos c] at h
    exact kt c h H locs ls hH hv
theorem g_icmp_gt (hk : zOk K kx cc nL ret own d) {x y : Int} (cx : cI x) (cy : cI y) {A B : Option β} (hd : zbr cc pc (.if_icmp .gt off) nx off tgt) (h : (if y < x then A else B) = some o) (kt : y < x → A = some o → GoAt K m lv st tgt ρ) (kf : ¬ y < x → B = some o → GoAt K m lv st nx ρ) : GoAt K m lv (mI y :: mI x :: st) pc ρ := by
  obtain ⟨hd, rfl, ht⟩ := hd
  intro H locs ls hH hv
  refine lv_icmp_gt hk.1 hk.2.1 hd ht (fun c => ?_) (fun c => ?_)
  all_goals (rw [ilt_v cy cx] at c)
  · have c : y < x := by first | exact c | omega
    rw [if_pos c] at h
    exact kt c h H locs ls hH hv
  · have c : ¬ y < x := by first | exact c | omega
    rw [if_neg c] at h
    exact kf c h H locs ls hH hv
theorem g_icmp_le (hk : zOk K kx cc nL ret own d) {x y : Int} (cx : cI x) (cy : cI y) {A B : Option β} (hd : zbr cc pc (.if_icmp .le off) nx off tgt) (h : (if y < x then A else B) = some o) (kt : y < x → A = some o → GoAt K m lv st nx ρ) (kf : ¬ y < x → B = some o → GoAt K m lv st tgt ρ) : GoAt K m lv (mI y :: mI x :: st) pc ρ := by
  obtain ⟨hd, rfl, ht⟩ := hd
  intro H locs ls hH hv
  refine lv_icmp_le hk.1 hk.2.1 hd ht (fun c => ?_) (fun c => ?_)
  all_goals (rw [ile_v cx cy] at c)
  · have c : ¬ y < x := by first | exact c | omega
    rw [if_neg c] at h
    exact kf c h H locs ls hH hv
  · have c : y < x := by first | exact c | omega
    rw [if_pos c] at h
    exact kt c h H locs ls hH hv
theorem g_if_eq (hk : zOk K kx cc nL ret own d) {x : Int} (cx : cI x) {A B : Option β} (hd : zbr cc pc (.ifCond .eq off) nx off tgt) (h : (if x = 0 then A else B) = some o) (kt : x = 0 → A = some o → GoAt K m lv st tgt ρ) (kf : ¬ x = 0 → B = some o → GoAt K m lv st nx ρ) : GoAt K m lv (mI x :: st) pc ρ := by
  obtain ⟨hd, rfl, ht⟩ := hd
  intro H locs ls hH hv
  refine lv_if_eq hk.1 hk.2.1 hd ht (fun c => ?_) (fun c => ?_)
  all_goals (rw [show (0 : Int32) = Int32.ofInt 0 from rfl, ieq_v cx c0I] at c)
  · have c : x = 0 := by first | exact c | omega
    rw [if_pos c] at h
    exact kt c h H locs ls hH hv
  · have c : ¬ x = 0 := by first | exact c | omega
    rw [if_neg c] at h
    exact kf c h H locs ls hH hv
theorem g_if_ne (hk : zOk K kx cc nL ret own d) {x : Int} (cx : cI x) {A B : Option β} (hd : zbr cc pc (.ifCond .ne off) nx off tgt) (h : (if x = 0 then A else B) = some o) (kt : x = 0 → A = some o → GoAt K m lv st nx ρ) (kf : ¬ x = 0 → B = some o → GoAt K m lv st tgt ρ) : GoAt K m lv (mI x :: st) pc ρ := by
  obtain ⟨hd, rfl, ht⟩ := hd
  intro H locs ls hH hv
  refine lv_if_ne hk.1 hk.2.1 hd ht (fun c => ?_) (fun c => ?_)
  all_goals (rw [show (0 : Int32) = Int32.ofInt 0 from rfl, ieq_v cx c0I] at c)
  · have c : ¬ x = 0 := by first | exact c | omega
    rw [if_neg c] at h
    exact kf c h H locs ls hH hv
  · have c : x = 0 := by first | exact c | omega
    rw [if_pos c] at h
    exact kt c h H locs ls hH hv
theorem g_if_lt (hk : zOk K kx cc nL ret own d) {x : Int} (cx : cI x) {A B : Option β} (hd : zbr cc pc (.ifCond .lt off) nx off tgt) (h : (if x < 0 then A else B) = some o) (kt : x < 0 → A = some o → GoAt K m lv st tgt ρ) (kf : ¬ x < 0 → B = some o → GoAt K m lv st nx ρ) : GoAt K m lv (mI x :: st) pc ρ := by
  obtain ⟨hd, rfl, ht⟩ := hd
  intro H locs ls hH hv
  refine lv_if_lt hk.1 hk.2.1 hd ht (fun c => ?_) (fun c => ?_)
  all_goals (rw [show (0 : Int32) = Int32.ofInt 0 from rfl, ilt_v cx c0I] at c)
  · have c : x < 0 := by first | exact c | omega
    rw [if_pos c] at h
    exact kt c h H locs ls hH hv
  · have c : ¬ x < 0 := by first | exact c | omega
    rw [if_neg c] at h
    exact kf c h H locs ls hH hv
theorem g_if_ge (hk : zOk K kx cc nL ret own d) {x : Int} (cx : cI x) {A B : Option β} (hd : zbr cc pc (.ifCond .ge off) nx off tgt) (h : (if x < 0 then A else B) = some o) (kt : x < 0 → A = some o → GoAt K m lv st nx ρ) (kf : ¬ x < 0 → B = some o → GoAt K m lv st tgt ρ) : GoAt K m lv (mI x :: st) pc ρ := by
  obtain ⟨hd, rfl, ht⟩ := hd
  intro H locs ls hH hv
  refine lv_if_ge hk.1 hk.2.1 hd ht (fun c => ?_) (fun c => ?_)
  all_goals (rw [show (0 : Int32) = Int32.ofInt 0 from rfl, ile_v c0I cx] at c)
  · have c : ¬ x < 0 := by first | exact c | omega
    rw [if_neg c] at h
    exact kf c h H locs ls hH hv
  · have c : x < 0 := by first | exact c | omega
    rw [if_pos c] at h
    exact kt c h H locs ls hH hv
theorem g_if_gt (hk : zOk K kx cc nL ret own d) {x : Int} (cx : cI x) {A B : Option β} (hd : zbr cc pc (.ifCond .gt off) nx off tgt) (h : (if 0 < x then A else B) = some o) (kt : 0 < x → A = some o → GoAt K m lv st tgt ρ) (kf : ¬ 0 < x → B = some o → GoAt K m lv st nx ρ) : GoAt K m lv (mI x :: st) pc ρ := by
  obtain ⟨hd, rfl, ht⟩ := hd
  intro H locs ls hH hv
  refine lv_if_gt hk.1 hk.2.1 hd ht (fun c => ?_) (fun c => ?_)
  all_goals (rw [show (0 : Int32) = Int32.ofInt 0 from rfl, ilt_v c0I cx] at c)
  · have c : 0 < x := by first | exact c | omega
    rw [if_pos c] at h
    exact kt c h H locs ls hH hv
  · have c : ¬ 0 < x := by first | exact c | omega
    rw [if_neg c] at h
    exact kf c h H locs ls hH hv
theorem g_if_le (hk : zOk K kx cc nL ret own d) {x : Int} (cx : cI x) {A B : Option β} (hd : zbr cc pc (.ifCond .le off) nx off tgt) (h : (if 0 < x then A else B) = some o) (kt : 0 < x → A = some o → GoAt K m lv st nx ρ) (kf : ¬ 0 < x → B = some o → GoAt K m lv st tgt ρ) : GoAt K m lv (mI x :: st) pc ρ := by
  obtain ⟨hd, rfl, ht⟩ := hd
  intro H locs ls hH hv
  refine lv_if_le hk.1 hk.2.1 hd ht (fun c => ?_) (fun c => ?_)
  all_goals (rw [show (0 : Int32) = Int32.ofInt 0 from rfl, ile_v cx c0I] at c)
  · have c : ¬ 0 < x := by first | exact c | omega
    rw [if_neg c] at h
    exact kf c h H locs ls hH hv
  · have c : 0 < x := by first | exact c | omega
    rw [if_pos c] at h
    exact kt c h H locs ls hH hv
theorem g_goto (hk : zOk K kx cc nL ret own d) (hd : zbr cc pc (.goto off) nx off tgt) (kk : GoAt K m lv st tgt ρ) : GoAt K m lv st pc ρ := fun H locs ls hH hv => lv_goto hk.1 hk.2.1 hd.1 hd.2.2 (kk H locs ls hH hv)
theorem lg_cmp_v {x y : Int} (cx : cL x) (cy : cL y) : lg_cmp (Int64.ofInt x) (Int64.ofInt y) = Int32.ofInt (if y < x then 1 else if x = y then 0 else -1) := by
  unfold lg_cmp
  simp only [gt_iff_lt, llt_v cy cx, leq_v cx cy]
  split
  · rfl
  · split <;> rfl
theorem g_lcmp (hk : zOk K kx cc nL ret own d) {x y : Int} (cx : cL x) (cy : cL y) (hd : zdec cc pc (.lcmp) 1 nx) (kk : GoAt K m lv (mI (if y < x then 1 else if x = y then 0 else -1) :: st) nx ρ) : GoAt K m lv (mL y :: mL x :: st) pc ρ := by
  obtain ⟨hd, rfl⟩ := hd
  intro H locs ls hH hv
  refine W.lcmp hk.1 hk.2.1 hd ?_
  rw [lg_cmp_v cx cy]
  exact kk H locs ls hH hv
theorem lcmp_c (x y : Int) : cI (if y < x then 1 else if x = y then 0 else -1) := by
  unfold cI
  split
  · omega
  · split <;> omega
theorem g_lcmp_eq (hk : zOk K kx cc nL ret own d) {x y : Int} {nx2 : Nat} (cx : cL x) (cy : cL y) {A B : Option β} (hd0 : zdec cc pc (.lcmp) 1 nx) (hd : zbr cc nx (.ifCond .eq off) nx2 off tgt) (h : (if x = y then A else B) = some o) (kt : x = y → A = some o → GoAt K m lv st tgt ρ) (kf : ¬ x = y → B = some o → GoAt K m lv st nx2 ρ) : GoAt K m lv (mL y :: mL x :: st) pc ρ := by
  refine g_lcmp hk cx cy hd0 ?_
  have e : ((if y < x then (1 : Int) else if x = y then 0 else -1) = 0) ↔ (x = y) := by
    by_cases h1 : y < x
    · rw [if_pos h1]; omega
    · rw [if_neg h1]
      by_cases h2 : x = y
      · rw [if_pos h2]; omega
      · rw [if_neg h2]; omega
  refine g_if_eq hk (lcmp_c x y) hd (A := A) (B := B) (o := o) ?_ (fun c => kt (e.mp c)) (fun c => kf (fun q => c (e.mpr q)))
  rcases zite h with ⟨c, h⟩ | ⟨c, h⟩
  · rw [if_pos (e.mpr c)]; exact h
  · rw [if_neg (fun q => c (e.mp q))]; exact h
theorem g_lcmp_ne (hk : zOk K kx cc nL ret own d) {x y : Int} {nx2 : Nat} (cx : cL x) (cy : cL y) {A B : Option β} (hd0 : zdec cc pc (.lcmp) 1 nx) (hd : zbr cc nx (.ifCond .ne off) nx2 off tgt) (h : (if x = y then A else B) = some o) (kt : x = y → A = some o → GoAt K m lv st nx2 ρ) (kf : ¬ x = y → B = some o → GoAt K m lv st tgt ρ) : GoAt K m lv (mL y :: mL x :: st) pc ρ := by
  refine g_lcmp hk cx cy hd0 ?_
  have e : ((if y < x then (1 : Int) else if x = y then 0 else -1) = 0) ↔ (x = y) := by
    by_cases h1 : y < x
    · rw [if_pos h1]; omega
    · rw [if_neg h1]
      by_cases h2 : x = y
      · rw [if_pos h2]; omega
      · rw [if_neg h2]; omega
  refine g_if_ne hk (lcmp_c x y) hd (A := A) (B := B) (o := o) ?_ (fun c => kt (e.mp c)) (fun c => kf (fun q => c (e.mpr q)))
  rcases zite h with ⟨c, h⟩ | ⟨c, h⟩
  · rw [if_pos (e.mpr c)]; exact h
  · rw [if_neg (fun q => c (e.mp q))]; exact h
theorem g_lcmp_lt (hk : zOk K kx cc nL ret own d) {x y : Int} {nx2 : Nat} (cx : cL x) (cy : cL y) {A B : Option β} (hd0 : zdec cc pc (.lcmp) 1 nx) (hd : zbr cc nx (.ifCond .lt off) nx2 off tgt) (h : (if x < y then A else B) = some o) (kt : x < y → A = some o → GoAt K m lv st tgt ρ) (kf : ¬ x < y → B = some o → GoAt K m lv st nx2 ρ) : GoAt K m lv (mL y :: mL x :: st) pc ρ := by
  refine g_lcmp hk cx cy hd0 ?_
  have e : ((if y < x then (1 : Int) else if x = y then 0 else -1) < 0) ↔ (x < y) := by
    by_cases h1 : y < x
    · rw [if_pos h1]; omega
    · rw [if_neg h1]
      by_cases h2 : x = y
      · rw [if_pos h2]; omega
      · rw [if_neg h2]; omega
  refine g_if_lt hk (lcmp_c x y) hd (A := A) (B := B) (o := o) ?_ (fun c => kt (e.mp c)) (fun c => kf (fun q => c (e.mpr q)))
  rcases zite h with ⟨c, h⟩ | ⟨c, h⟩
  · rw [if_pos (e.mpr c)]; exact h
  · rw [if_neg (fun q => c (e.mp q))]; exact h
theorem g_lcmp_ge (hk : zOk K kx cc nL ret own d) {x y : Int} {nx2 : Nat} (cx : cL x) (cy : cL y) {A B : Option β} (hd0 : zdec cc pc (.lcmp) 1 nx) (hd : zbr cc nx (.ifCond .ge off) nx2 off tgt) (h : (if x < y then A else B) = some o) (kt : x < y → A = some o → GoAt K m lv st nx2 ρ) (kf : ¬ x < y → B = some o → GoAt K m lv st tgt ρ) : GoAt K m lv (mL y :: mL x :: st) pc ρ := by
  refine g_lcmp hk cx cy hd0 ?_
  have e : ((if y < x then (1 : Int) else if x = y then 0 else -1) < 0) ↔ (x < y) := by
    by_cases h1 : y < x
    · rw [if_pos h1]; omega
    · rw [if_neg h1]
      by_cases h2 : x = y
      · rw [if_pos h2]; omega
      · rw [if_neg h2]; omega
  refine g_if_ge hk (lcmp_c x y) hd (A := A) (B := B) (o := o) ?_ (fun c => kt (e.mp c)) (fun c => kf (fun q => c (e.mpr q)))
  rcases zite h with ⟨c, h⟩ | ⟨c, h⟩
  · rw [if_pos (e.mpr c)]; exact h
  · rw [if_neg (fun q => c (e.mp q))]; exact h
theorem g_lcmp_gt (hk : zOk K kx cc nL ret own d) {x y : Int} {nx2 : Nat} (cx : cL x) (cy : cL y) {A B : Option β} (hd0 : zdec cc pc (.lcmp) 1 nx) (hd : zbr cc nx (.ifCond .gt off) nx2 off tgt) (h : (if y < x then A else B) = some o) (kt : y < x → A = some o → GoAt K m lv st tgt ρ) (kf : ¬ y < x → B = some o → GoAt K m lv st nx2 ρ) : GoAt K m lv (mL y :: mL x :: st) pc ρ := by
  refine g_lcmp hk cx cy hd0 ?_
  have e : (0 < (if y < x then (1 : Int) else if x = y then 0 else -1)) ↔ (y < x) := by
    by_cases h1 : y < x
    · rw [if_pos h1]; omega
    · rw [if_neg h1]
      by_cases h2 : x = y
      · rw [if_pos h2]; omega
      · rw [if_neg h2]; omega
  refine g_if_gt hk (lcmp_c x y) hd (A := A) (B := B) (o := o) ?_ (fun c => kt (e.mp c)) (fun c => kf (fun q => c (e.mpr q)))
  rcases zite h with ⟨c, h⟩ | ⟨c, h⟩
  · rw [if_pos (e.mpr c)]; exact h
  · rw [if_neg (fun q => c (e.mp q))]; exact h
theorem g_lcmp_le (hk : zOk K kx cc nL ret own d) {x y : Int} {nx2 : Nat} (cx : cL x) (cy : cL y) {A B : Option β} (hd0 : zdec cc pc (.lcmp) 1 nx) (hd : zbr cc nx (.ifCond .le off) nx2 off tgt) (h : (if y < x then A else B) = some o) (kt : y < x → A = some o → GoAt K m lv st nx2 ρ) (kf : ¬ y < x → B = some o → GoAt K m lv st tgt ρ) : GoAt K m lv (mL y :: mL x :: st) pc ρ := by
  refine g_lcmp hk cx cy hd0 ?_
  have e : (0 < (if y < x then (1 : Int) else if x = y then 0 else -1)) ↔ (y < x) := by
    by_cases h1 : y < x
    · rw [if_pos h1]; omega
    · rw [if_neg h1]
      by_cases h2 : x = y
      · rw [if_pos h2]; omega
      · rw [if_neg h2]; omega
  refine g_if_le hk (lcmp_c x y) hd (A := A) (B := B) (o := o) ?_ (fun c => kt (e.mp c)) (fun c => kf (fun q => c (e.mpr q)))
  rcases zite h with ⟨c, h⟩ | ⟨c, h⟩
  · rw [if_pos (e.mpr c)]; exact h
  · rw [if_neg (fun q => c (e.mp q))]; exact h
theorem g_tin (hk : zOk K kx cc nL ret own d) {x k dflt lo hi : Int} {offs : Array Int} {len : Nat} (cx : cI x) (hd : decode cc pc = .ok (.tableswitch dflt lo hi offs, len)) (e : x = k) (h1 : ¬ k < lo) (h2 : ¬ hi < k) (ho : offs[(k - lo).toNat]? = some off) (ht : (pc : Int) + off = (tgt : Int)) (kk : GoAt K m lv st tgt ρ) : GoAt K m lv (mI x :: st) pc ρ := by
  subst e
  intro H locs ls hH hv
  exact lv_tableIn hk.1 hk.2.1 hd (by rw [tI_oI cx]; exact h1) (by rw [tI_oI cx]; exact h2) (by rw [tI_oI cx]; exact ho) ht (kk H locs ls hH hv)
theorem g_tout (hk : zOk K kx cc nL ret own d) {x dflt lo hi : Int} {offs : Array Int} {len : Nat} (cx : cI x) (hd : decode cc pc = .ok (.tableswitch dflt lo hi offs, len)) (h1 : x < lo ∨ hi < x) (ht : (pc : Int) + dflt = (tgt : Int)) (kk : GoAt K m lv st tgt ρ) : GoAt K m lv (mI x :: st) pc ρ := by
  intro H locs ls hH hv
  exact lv_tableOut hk.1 hk.2.1 hd (by rw [tI_oI cx]; exact h1) ht (kk H locs ls hH hv)
theorem zlk_none {x dflt : Int} : ∀ (l : List (Int × Int)), (∀ q ∈ l, q.1 ≠ x) → Op.lookupswitch.offset l dflt x = dflt
  | [], _ => rfl
  | (a, b) :: l, h => by
    rw [Op.lookupswitch.offset_cons, if_neg]
    · exact zlk_none l (fun q hq => h q (List.mem_cons_of_mem _ hq))
    · intro e
      exact h (a, b) List.mem_cons_self (by first | exact e | exact e.symm)
theorem g_lin (hk : zOk K kx cc nL ret own d) {x k dflt : Int} {ps : Array (Int × Int)} {len : Nat} (cx : cI x) (hd : decode cc pc = .ok (.lookupswitch dflt ps, len)) (hp : (ps.toList.zip (ps.toList.drop 1)).all (fun (a, next) => a.1 < next.1) = true) (e : x = k) (ho : Op.lookupswitch.offset ps.toList dflt k = off) (ht : (pc : Int) + off = (tgt : Int)) (kk : GoAt K m lv st tgt ρ) : GoAt K m lv (mI x :: st) pc ρ := by
  subst e
  intro H locs ls hH hv
  exact lv_lookup hk.1 hk.2.1 hd hp (by rw [tI_oI cx]; exact ho) ht (kk H locs ls hH hv)
theorem g_end {H : Heap} {locs : List Loc} (hk : zOk K kx cc nL ret own d) {t : Nat} {x : Int} (hx : zok t x) (hH : zHp K m H locs) (v : Option Value) (hv : zrv (t, x, m) = v) : ∀ T : State, T.heap = H → (kS K).WarmedH T.vm → zPost (kD K) (kaC K) (kB K) (kd K) (kN K) (t, x, m) (kAr K) (kS K) (.returned v) T := by
  intro T hT hW
  exact ⟨by rw [hv], by rw [hT]; exact hH.1, va_K.moved hW.alike hk.2.2.2.2.2.1, hH.2.1, hx, hH.2.2.F hT⟩
theorem g_ireturn (hk : zOk K kx cc nL (some .int) own d) {x : Int} (cx : cI x) (hd : zdec cc pc (.ireturn) 1 nx) (e : ρ = (0, x, m)) : GoAt K m lv [mI x] pc ρ := by
  subst e
  intro H locs ls hH hv
  have hlocks : (kMe K).locks = false := hk.2.2.2.2.2.2.2.1
  exact W.iret hk.1 hk.2.1 hk.2.2.2.2.2.2.1 (g_end hk (t := 0) cx hH _ rfl) hH.2.2.2.2 hd.1 hlocks
theorem g_zreturn (hk : zOk K kx cc nL (some .boolean) own d) {x : Int} (cx : zok 4 x) (hd : zdec cc pc (.ireturn) 1 nx) (e : ρ = (4, x, m)) : GoAt K m lv [mI x] pc ρ := by
  subst e
  intro H locs ls hH hv
  have hlocks : (kMe K).locks = false := hk.2.2.2.2.2.2.2.1
  exact W.zret hk.1 hk.2.1 hk.2.2.2.2.2.2.1 (nar4 cx) (g_end hk (t := 4) cx hH _ rfl) hH.2.2.2.2 hd.1 hlocks
theorem g_lreturn (hk : zOk K kx cc nL (some .long) own d) {x : Int} (cx : cL x) (hd : zdec cc pc (.lreturn) 1 nx) (e : ρ = (1, x, m)) : GoAt K m lv [mL x] pc ρ := by
  subst e
  intro H locs ls hH hv
  have hlocks : (kMe K).locks = false := hk.2.2.2.2.2.2.2.1
  exact W.lret hk.1 hk.2.1 hk.2.2.2.2.2.2.1 (g_end hk (t := 1) cx hH _ rfl) hH.2.2.2.2 hd.1 hlocks
theorem g_return (hk : zOk K kx cc nL none own d) (hd : zdec cc pc (.return_) 1 nx) (e : ρ = (9, 0, m)) : GoAt K m lv [] pc ρ := by
  subst e
  intro H locs ls hH hv
  have hlocks : (kMe K).locks = false := hk.2.2.2.2.2.2.2.1
  exact W.vret hk.1 hk.2.1 hk.2.2.2.2.2.2.1 (g_end hk (t := 9) c0I hH _ rfl) hH.2.2.2.2 hd.1 hlocks
end ROWS
