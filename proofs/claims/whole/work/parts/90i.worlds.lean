/-! the law: the classes, as the tables have them -/
theorem ac_spec {s : State} {args : Array Value} {type : FieldType} (h : (Cond.arrayClass type).before args s = true) : ∃ (c : ClassId) (k : Class) (comp : ClassId), s.vm.findClass ("[" ++ type.toString) = some c ∧ s.vm.classes[c]? = some k ∧ k.kind = .array comp type := by
  simp only [Cond.before, Cond.holds, Cond.value] at h
  cases hc : s.vm.findClass ("[" ++ type.toString) with
  | none => simp [hc] at h
  | some c =>
    cases hk : s.vm.classes[c]? with
    | none => simp [hc, hk] at h
    | some k =>
      simp [hc, hk] at h
      cases hkind : k.kind with
      | array comp ty =>
        rw [hkind] at h
        simp at h
        exact ⟨c, k, comp, rfl, hk, by rw [hkind, h]⟩
      | _ =>
        rw [hkind] at h
        simp at h
theorem vaK_of {s : State} {b : Nat} (cl0 : ClassId) (hw : ∀ w ∈ lw_tbl, w.before #[Value.ref b] s = true) : ∃ (D : va_G) (aC : Nat → ClassId), va_K D vwCl (ztys aC) s := by
  have ht := tbl_hts hw
  have Hk : ∀ k : Nat, ∃ r : ClassId × (Nat → Nat), ∀ q : vw_C, vwCl[k]? = some q → u_Kn s q.1 q.2.1 q.2.2 r.1 r.2 := by
    intro k
    match k with
    | 0 => obtain ⟨cC, iS, h⟩ := u_known (C := RX0) (T := TX0) (N := 3) (n := 3) ht inX0 (ht _ (inT2 22 rfl rfl)); exact ⟨(cC, iS), fun q hq => by cases hq; exact h⟩
    | 1 => obtain ⟨cC, iS, h⟩ := u_known (C := RX1) (T := TX1) (N := 3) (n := 3) ht inX1 (ht _ (inT2 135 rfl rfl)); exact ⟨(cC, iS), fun q hq => by cases hq; exact h⟩
    | 2 => obtain ⟨cC, iS, h⟩ := u_known (C := RX2) (T := TX2) (N := 5) (n := 5) ht inX2 (ht _ (inT2 42 rfl rfl)); exact ⟨(cC, iS), fun q hq => by cases hq; exact h⟩
    | 3 => obtain ⟨cC, iS, h⟩ := u_known (C := RX3) (T := TX3) (N := 5) (n := 5) ht inX3 (ht _ (inT2 105 rfl rfl)); exact ⟨(cC, iS), fun q hq => by cases hq; exact h⟩
    | 4 => obtain ⟨cC, iS, h⟩ := u_known (C := RX4) (T := TX4) (N := 4) (n := 4) ht inX4 (ht _ (inT2 0 rfl rfl)); exact ⟨(cC, iS), fun q hq => by cases hq; exact h⟩
    | 5 => obtain ⟨cC, iS, h⟩ := u_known (C := RX5) (T := TX5) (N := 9) (n := 9) ht inX5 (ht _ (inT1 30 rfl rfl)); exact ⟨(cC, iS), fun q hq => by cases hq; exact h⟩
    | 6 => obtain ⟨cC, iS, h⟩ := u_known (C := RX6) (T := TX6) (N := 5) (n := 5) ht inX6 (ht _ (inT2 67 rfl rfl)); exact ⟨(cC, iS), fun q hq => by cases hq; exact h⟩
    | 7 => obtain ⟨cC, iS, h⟩ := u_known (C := RX7) (T := TX7) (N := 12) (n := 12) ht inX7 (ht _ (inT1 166 rfl rfl)); exact ⟨(cC, iS), fun q hq => by cases hq; exact h⟩
    | 8 => obtain ⟨cC, iS, h⟩ := u_known (C := RX8) (T := TX8) (N := 9) (n := 9) ht inX8 (ht _ (inT1 36 rfl rfl)); exact ⟨(cC, iS), fun q hq => by cases hq; exact h⟩
    | 9 => obtain ⟨cC, iS, h⟩ := u_known (C := RX9) (T := TX9) (N := 2) (n := 2) ht inX9 (ht _ (inT2 92 rfl rfl)); exact ⟨(cC, iS), fun q hq => by cases hq; exact h⟩
    | 10 => obtain ⟨cC, iS, h⟩ := u_known (C := RX10) (T := TX10) (N := 19) (n := 19) ht inX10 (ht _ (inT2 129 rfl rfl)); exact ⟨(cC, iS), fun q hq => by cases hq; exact h⟩
    | 11 => obtain ⟨cC, iS, h⟩ := u_known (C := RX11) (T := TX11) (N := 17) (n := 17) ht inX11 (ht _ (inT1 22 rfl rfl)); exact ⟨(cC, iS), fun q hq => by cases hq; exact h⟩
    | 12 => obtain ⟨cC, iS, h⟩ := u_known (C := RX12) (T := TX12) (N := 77) (n := 77) ht inX12 (ht _ (inT6 13 rfl rfl)); exact ⟨(cC, iS), fun q hq => by cases hq; exact h⟩
    | k + 13 => exact ⟨(cl0, fun _ => 0), fun q hq => by simp at hq⟩
  obtain ⟨f, hf⟩ := Classical.axiomOfChoice Hk
  obtain ⟨c1, k1, p1, a1, b1, d1⟩ := ac_spec (ht _ wAint)
  obtain ⟨c2, k2, p2, a2, b2, d2⟩ := ac_spec (ht _ wAlng)
  obtain ⟨c3, k3, p3, a3, b3, d3⟩ := ac_spec (ht _ wAboo)
  obtain ⟨p4, c4, k4, e1, e2, e3, e4, e5⟩ := Cond.arrayOver_spec (hw _ (inL1 (w := Cond.arrayOver (.object "BeastsChoose$State")) 238 rfl))
  obtain ⟨p5, c5, k5, g1, g2, g3, g4, g5⟩ := zAA.spec (s := s) (hw _ (inL2 (w := Cond.arrayOver (.array .int)) 28 rfl))
  refine ⟨(fun k => (f k).1, fun k => (f k).2), fun j => if j = 1 then c1 else if j = 2 then c2 else if j = 3 then c3 else if j = 4 then c4 else c5, fun c q hq => hf c q hq, fun k q hq => ?_⟩
  match k, hq with
  | 0, hq => cases hq; exact ⟨fun n z => ⟨(fun k h => by cases h), k1, b1, p1, d1⟩, a1⟩
  | 1, hq => cases hq; exact ⟨fun n z => ⟨(fun k h => by cases h), k2, b2, p2, d2⟩, a2⟩
  | 2, hq => cases hq; exact ⟨fun n z => ⟨(fun k h => by cases h), k3, b3, p3, d3⟩, a3⟩
  | 3, hq => cases hq; exact ⟨fun n z => ⟨(fun k h => by cases h), k4, e3, p4, e4⟩, k4, p4, e3, e4, e1, e5⟩
  | 4, hq => cases hq; exact ⟨fun n z => ⟨(fun k h => by cases h), k5, g3, p5, g4⟩, g5⟩
  | k + 5, hq => simp [ztys] at hq
