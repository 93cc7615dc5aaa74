/-! the law: the String constant, as the start has it -/
theorem str_el : ∀ j : Nat, j < 150 → (flatC (Jvm.Cond.and given_1 narrow_1))[13 + j]? = some (Cond.eq (Term.elem (Term.field (Term.string "BeastsChoose$Tape" 27) "java/lang/String" "value" "[B") (Term.int (Int32.ofNat j))) (Term.int (OWNB.getD j 0))) := by decide +kernel
theorem zXt_of {s : State} {b : Nat} (hw : ∀ w ∈ lw_tbl, w.before #[Value.ref b] s = true) (hg : (Jvm.Cond.and given_1 narrow_1).before #[Value.ref b] s = true) : ∃ S V : Nat, zXt S V s.heap.size s s.heap := by
  have hs := flat_of_before _ hg
  have hA : ∀ a : Nat, a < s.heap.size → ¬ (fun q : Nat => s.heap.size ≤ q) a := fun a h => Nat.not_le.mpr h
  obtain ⟨adK, adV, hS, hE⟩ := vk_Sof (args := #[Value.ref b]) (s := s) (N := 1) (tm := fun _ => Term.string "BeastsChoose$Tape" 27) (len := [150]) (byt := [OWNB]) (A := fun q => s.heap.size ≤ q) (fun i hi => by
      have e : i = 0 := by omega
      subst e
      decide) (fun i _ => hs _ (List.mem_of_getElem? (i := 9) (by decide +kernel))) (fun i _ => hs _ (List.mem_of_getElem? (i := 10) (by decide +kernel))) (fun i _ => hs _ (List.mem_of_getElem? (i := 11) (by decide +kernel))) (fun i hi => by
      have e : i = 0 := by omega
      subst e
      exact hs _ (List.mem_of_getElem? (i := 12) (by decide +kernel))) (fun i hi j hj => by
      have e : i = 0 := by omega
      subst e
      exact hs _ (List.mem_of_getElem? (str_el j hj))) (fun i j hi hj ne => by omega) hA
  have h0 := hS.1 0 (by decide)
  exact ⟨adK 0, adV 0, ⟨h0.1, h0.2.1, h0.2.2.1, h0.2.2.2, va_Zof (hw _ (inL1 51 rfl)) (hw _ (inL1 4 rfl)) (va_eqt (hs _ (List.mem_of_getElem? (i := 4) (by decide +kernel)))) hA, va_Zqof (hw _ (inL1 67 rfl)) (hw _ (inL1 6 rfl)) (hs _ (List.mem_of_getElem? (i := 5) (by decide +kernel))) hA⟩, vk_R.of (hw _ (inL1 41 rfl)) (hE 0 (by decide)), va_AO.of (hw _ (inL1 238 rfl)), hw _ (inL2 28 rfl)⟩
