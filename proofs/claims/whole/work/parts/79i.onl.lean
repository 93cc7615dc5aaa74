/-! on: the class reads to its end, come what may -/
theorem tkS.zoo {m m' Z : zM} {l : List Nat} {z : Nat} (hz : z = 55 ∨ z = 72) (h : tkS m m' l) (hZ : zv m z = Z) (hl : ∀ a ∈ l, a < 55) : zv m' z = Z := by
  rw [← hZ]
  exact zv_eq fun q _ _ => h.2.2.1 _ (fun w => by
    rcases List.mem_cons.mp w with e | e
    · omega
    · have := hl _ e; omega)
theorem wp_onG {Z m : zM} {z : Nat} {K : Nat → Nat → zM → Option (Int × zM)} {Q : Int × zM → Prop} (hZ : zv m z = Z) (hz : z = 55 ∨ z = 72) (n2 : 0 ≤ Z 0 1 ∧ Z 0 1 ≤ 8) (h : m 52 2 = 4) (h0 : 0 ≤ m 52 3) (hK : ∀ m1, tkS m m1 [17, 18, 19] → wp (K z 16 m1) Q) : wp (Im_read_L103 K 1000000 z 16 0 m) Q := by
  refine wp_for (fun n i (s : zM) => Im_read_L103 K n z 16 i s) (fun i s => tkS m s [17, 18, 19]) _ 0 (Z 0 1) ?_ ?_ 1000000 0 m (by omega) (by omega) (by omega) ⟨h, h0, eqO.refl, fun e => e⟩
  · intro n s i1
    show wp (Im_read_B103 _ _ _ _ _ _) _
    unfold Im_read_B103
    rw [rZ0 (i1.zoo hz hZ (by simp)), if_neg (by omega)]
    exact hK s i1
  · intro n i s q0 q1 i1 hr
    show wp (Im_read_B103 _ _ _ _ _ _) _
    unfold Im_read_B103
    rw [rZ0 (i1.zoo hz hZ (by simp)), if_pos q1, wI_ok (x := i * 3) (by omega) (by omega), wI_ok (x := i + 1) (by omega) (by omega)]
    refine wp_bm (wp_tkTriple i1.1 i1.2.1 (by omega) (by omega) (by omega) (by omega)) (fun r k => ?_)
    have k1 := i1.trans (k.mono (l' := [17, 18, 19]) (by simp))
    rw [tk_ok k1.1 k1.2.1, Option.bind_some, wr_ok q0 (by omega)]
    have k2 := fun x v => (k1.trans ((tk_keep (x := x) k1.1 k1.2.1).mono (l' := [17, 18, 19]) (by simp))).put (a := 18) (i := i) (v := v) (by simp) (by omega)
    rw [tk_ok (k2 _ _).1 (k2 _ _).2.1, Option.bind_some, wr_ok q0 (by omega)]
    exact hr _ (((k2 _ _).trans ((tk_keep (k2 _ _).1 (k2 _ _).2.1).mono (by simp))).put (by simp) (by omega))
