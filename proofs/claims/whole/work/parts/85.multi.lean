def mul7 (m : zM) : zM := stA m 32 (rng (m 32) 7 1)
theorem mul_outer (c : ClassId) (N h0 : Nat) : ∀ i : Nat, Jvm.Free.Multi.outerC c N h0 i = arrV c N (fun j => va_rf (if j < i then some (h0 + 1 + j) else none))
  | 0 => by
    show ({ cls := c, slots := Array.replicate N .null, vm := .none } : Cell) = _
    rw [arrV_new]
    refine congrArg (arrV c N) (funext fun j => ?_)
    simp [va_rf]
  | i + 1 => by
    show (Jvm.Free.Multi.outerC c N h0 i).setSlot i (.ref (h0 + 1 + i)) = _
    rw [mul_outer c N h0 i, arrV_store]
    refine congrArg (arrV c N) (funext fun j => ?_)
    by_cases e : j = i
    · subst e
      simp [updV, va_rf]
    · by_cases h : j < i
      · simp [updV, e, h, Nat.lt_succ_of_lt h]
      · simp [updV, e, h, show ¬ j < i + 1 by omega]
theorem gc_multi {K : zK} {cs sl S V : Nat} {m : zM} {Q : State → Prop} {lv : List (Nat × Value)} {st : List Value} {pc nx : Nat} {cc : ByteArray} {nL mc ms d : Nat} (hk : zOd K kdC cc nL RX0 mc ms d S V) (hc : cs + 8 ≤ mc) (hs : sl + 1799 ≤ ms) (hd : zdec cc pc (.multianewarray 15 2) 4 nx) (kk : GoW K (zHc K 40 (cs + 8) (mul7 m)) (cs + 8) (sl + 1799) Q lv (.ref (kB K + 32) :: st) nx) : GoW K (zHc K 32 cs m) cs sl Q lv (mI 256 :: mI 7 :: st) pc := by
  obtain ⟨hd, rfl⟩ := hd
  intro H locs ls hH hv T hT Xs
  obtain ⟨hP, ⟨hn1, hcs⟩, hz0, hS⟩ := hH
  have hsz0 : H.size ≤ (kS K).heap.size + cs := by rw [← hT]; exact Xs.same.2.2.1
  rw [hk.1.kde] at hP
  have hsz : H.size = kB K + 32 := Nat.le_antisymm (by omega) (zP_size hP (by decide))
  have hRe := hk.1.r
  have hts := hk.1.1.2.2.2.2.1
  have hKs := hk.1.2.1
  have hAA : zAA (kS K) := hk.2.2.2.2
  have e2 : "[" ++ (FieldType.array .int).toString = "[[I" := by decide +kernel
  have e7 : (Int32.ofInt 7).toNatClampNeg = 7 := by decide +kernel
  have e256 : (Int32.ofInt 256).toNatClampNeg = 256 := by decide +kernel
  obtain ⟨vm₁, cA, comp, -, fA, fC, hO, -, X', step⟩ := Xs.multianewarray2F hk.1.1.1 (own := RX0) (index := 15) (ty := .int) hk.1.1.2.2.2.1 (by rw [e2]; exact hts _ (inT2 27 rfl rfl)) hAA (hts _ (inT1 132 rfl rfl)) (g := F0 (kMm K) pc ls (mI 256 :: mI 7 :: st)) rfl (by rw [hk.1.1.2.1]; exact hd) (n := Int32.ofInt 7) (k := Int32.ofInt 256) rfl (by decide +kernel) (by decide +kernel) (by rw [e7]; decide) (by rw [e256]; decide) (by rw [e256]; decide) rfl rfl (by rw [e7, hRe]; show cs + (1 + 7) ≤ mc; omega) (by rw [e7, e256, hRe]; show sl + (7 + 7 * 256) ≤ ms; omega)
  rw [e7, e256] at X' step
  have hK1 := (hKs.2 0 _ rfl).2
  have hK5 := (hKs.2 4 _ rfl).2
  have eC : some comp = some (kaC K 1) := fC.symm.trans hK1
  have eA : some cA = some (kaC K 5) := fA.symm.trans hK5
  cases eC
  cases eA
  generalize hF : Jvm.Free.Multi.fill (T.setVm vm₁) (kaC K 5) (kaC K 1) 7 256 (defaultValue .int) 7 = F at X' step
  have hTh : (T.setVm vm₁).heap = H := hT
  obtain ⟨f1, f2, -, -⟩ := Jvm.Free.Multi.fill_facts (T.setVm vm₁) (kaC K 5) (kaC K 1) 7 256 (defaultValue .int) 7
  rw [hF, hTh] at f1 f2
  have hold : ∀ x : Nat, x < H.size → F.heap[x]? = H[x]? := fun x hx => by
    have := Jvm.Free.Multi.fill_old (T.setVm vm₁) (kaC K 5) (kaC K 1) 7 256 (defaultValue .int) (a := x) (by rw [hTh]; exact hx) 7
    rw [hF, hTh] at this
    exact this
  have hrow : ∀ j : Nat, j < 7 → F.heap[H.size + 1 + j]? = some (Jvm.Free.Multi.innerC (kaC K 1) 256 (defaultValue .int)) := fun j hj => by
    have := Jvm.Free.Multi.fill_inner (T.setVm vm₁) (kaC K 5) (kaC K 1) 7 256 (defaultValue .int) 7 j hj
    rw [hF, hTh] at this
    exact this
  have hP' : va_P (kD K) vwCl (zws kdC 40 (kB K) (kaC K) (mul7 m)) F.heap := by
    intro k q hq
    have hk40 : k < 40 := by
      have := (List.getElem?_eq_some_iff.mp hq).1
      unfold zws at this
      simpa using this
    rw [zws_get hk40] at hq
    cases hq
    rcases Nat.lt_or_ge k 32 with h32 | h32
    · have w := hP k _ (zws_get h32)
      have w2 := w.lt
      rw [show mul7 m k = m k from stA_ne (by omega)]
      exact w.kept (hold _ w2)
    · by_cases e : k = 32
      · subst e
        show F.heap[kB K + 32]? = some (vp_cell _ _)
        rw [← hsz, f2, mul_outer]
        refine congrArg some ?_
        show _ = vp_cell (kaC K 5) (7, .inr (.inr (.inr (.inr (fun j : Nat => if mul7 m 32 (j : Int) = 0 then none else some (kB K + (32 + 1 + j)))))))
        rw [vp_cell_q]
        refine congrArg (arrV (kaC K 5) 7) (funext fun j => ?_)
        have e3 : mul7 m 32 = rng (fun _ => 0) 7 1 := by
          unfold mul7
          rw [stA_eq, hz0 32 (by decide)]
        rw [e3]
        unfold rng
        by_cases hj : j < 7
        · rw [if_pos hj, if_pos (show (0 : Int) ≤ (j : Int) ∧ (j : Int) < 7 by omega), if_neg (by decide), hsz]
          congr 2
          omega
        · rw [if_neg hj, if_neg (show ¬ ((0 : Int) ≤ (j : Int) ∧ (j : Int) < 7) by omega), if_pos rfl]
      · have hr := hrow (k - 33) (by omega)
        rw [show H.size + 1 + (k - 33) = kB K + k by omega] at hr
        have hkd : kdC k = (1, 256) := by
          have hh : ∀ k : Nat, k < 40 → 33 ≤ k → kdC k = (1, 256) := by decide +kernel
          exact hh k hk40 (by omega)
        rw [zent_int hkd, show mul7 m k = fun _ => 0 from (stA_ne (by omega)).trans (hz0 k (by omega))]
        show F.heap[kB K + k]? = some (vp_cell (kaC K 1) (256, .inl (fun _ : Nat => Int32.ofInt 0)))
        rw [hr]
        refine congrArg some ?_
        show ({ cls := kaC K 1, slots := Array.replicate 256 (defaultValue .int), vm := .none } : Cell) = _
        rw [arrV_new]
        rfl
  have hS' : va_S (fun q => kB K ≤ q) (kS K).heap F.heap locs := ⟨by rw [f1]; exact Nat.le_trans hS.1 (by omega), fun q h1 h2 => by rw [hold q (by have := hS.1; omega)]; exact hS.2.1 q h1 h2, hS.2.2⟩
  rw [show cs + 1 + 7 = cs + 8 by omega, show sl + 7 + 7 * 256 = sl + 1799 by omega] at X'
  obtain ⟨t2, a1, b1⟩ := kk F.heap locs ls ⟨by rw [hk.1.kde]; exact hP', ⟨by decide, by omega⟩, fun id h => (stA_ne (by omega)).trans (hz0 id (by omega)), hS'⟩ hv F rfl X'
  refine ⟨t2, step t2 ?_, b1⟩
  rw [show T.heap.size = kB K + 32 by rw [← hsz]; exact congrArg Array.size hT]
  exact a1
