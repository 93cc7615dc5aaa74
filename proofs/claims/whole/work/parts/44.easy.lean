/-! refusals and the calls that need little -/
def bmp (f : Int → Int) (k : Int) : Int → Int := sets f k (wI (f k + 1))
theorem C_refuse_ok {k : Int} {m : zM} (h0 : 0 ≤ k) (h1 : k < 6) : C_refuse k m = some (-1, upm m 54 k (wI (m 54 k + 1))) := by
  unfold C_refuse
  simp (disch := omega) only [rd_ok, wr_ok]
theorem M_refuses_ok {k : Int} {m : zM} (h0 : 0 ≤ k) (h1 : k < 6) : M_refuses k m = some (-1, upm m 26 k (wI (m 26 k + 1))) := by
  unfold M_refuses
  simp (disch := omega) only [rd_ok, wr_ok]
/-- both refuse: the counts are still alike -/
theorem Rel.refuse {mC mM : zM} {k : Int} (h : Rel mC mM) (h0 : 0 ≤ k) (h1 : k < 6) : Rel (upm mC 54 k (wI (mC 54 k + 1))) (upm mM 26 k (wI (mM 26 k + 1))) := by
  obtain ⟨z, a1, a2, a3, a4, a5, a6, a7, a8, a9, a10⟩ := h
  have hz : z < 89 ∧ 55 ≤ z := by rcases a3.1 with e | e <;> omega
  have hnb : vw mC z 0 0 ≤ 6 := a3.2.2.2.2.1.2.2
  have hng : vw mC z 0 1 ≤ 8 := a3.2.2.2.2.2.1.2.2
  have c : ∀ a, a ≠ 54 → upm mC 54 k (wI (mC 54 k + 1)) a = mC a := fun a q => upm_ne q
  have d : ∀ a, a ≠ 26 → upm mM 26 k (wI (mM 26 k + 1)) a = mM a := fun a q => upm_ne q
  have sl : ∀ v, sameLay mM (upm mM 26 k (wI (mM 26 k + 1))) v := fun v a q1 q2 i _ _ => by rw [d a (by omega)]
  have hv : ∀ o, 55 ≤ o → vw (upm mC 54 k (wI (mC 54 k + 1))) o = vw mC o := fun o q => funext fun j => c _ (by omega)
  refine ⟨z, ?_, ?_, ?_, ?_, ?_, ?_, ?_, ?_, ?_, ?_⟩
  · rw [c 3 (by omega), c 2 (by omega), d 1 (by omega), d 0 (by omega)]; exact a1
  · rw [c 1 (by omega), d 0 (by omega)]; exact a2
  · obtain ⟨b1, b2, b3, b4, b5⟩ := a3
    refine ⟨b1, by rw [c 0 (by omega)]; exact b2, by rw [c 0 (by omega)]; exact b3, by rw [d 0 (by omega)]; exact b4, ?_⟩
    rw [d 0 (by omega), hv z hz.2]
    exact b5.congr (fun _ _ _ => rfl) (fun a q1 q2 => d a (by omega))
  · rw [hv z hz.2]
    exact a4.congr rfl rfl hnb hng (fun j q => c _ (by omega)) (sl 0)
  · obtain ⟨b1, b2, b3, b4, b5, b6, b7⟩ := a5
    unfold RU
    rw [c 0 (by omega), d 0 (by omega), hv z hz.2]
    refine ⟨b1, b2, b3, b4, b5, b6, fun j q1 q2 => ?_⟩
    rw [hv _ (by omega)]
    exact (b7 j q1 q2).congr rfl rfl hnb hng (fun _ _ => rfl) (sl _)
  · rw [hv z hz.2]
    unfold RL
    rw [c 40 (by omega), c 42 (by omega), d 0 (by omega), d 43 (by omega), d 44 (by omega)]; exact a6
  · unfold RI
    rw [c 52 (by omega), c 53 (by omega), d 0 (by omega), d 52 (by omega)]; exact a7
  · rw [upm_eq, upm_eq]
    intro j q1 q2
    by_cases e : j = k
    · subst e
      rw [sets_eq, sets_eq, a8 j q1 q2]
    · rw [sets_ne e, sets_ne e]
      exact a8 j q1 q2
  · rw [c 0 (by omega), d 0 (by omega)]; exact a9
  · rw [c 7 (by omega)]; exact a10
theorem rs_fault {mC mM : zM} {x : Int} (h : Rel mC mM) : ∃ r, C_fault x mC = some r ∧ M_fault x mM = some r := by
  obtain ⟨z, a1, ⟨e1, e2⟩, _⟩ := h
  unfold C_fault M_fault
  rw [e1, e2]
  refine ⟨if x = 0 then mM 0 10 else if x = 1 then mM 0 11 else -1, ?_, ?_⟩ <;> (split <;> first | rfl | (split <;> rfl))
theorem M_is_ok {x a b : Int} : M_is x a b = some (if a ≤ x ∧ x ≤ b then 1 else 0) := by
  unfold M_is
  by_cases h1 : x < a
  · rw [if_pos h1, if_neg (by omega)]
  · rw [if_neg h1]
    by_cases h2 : b < x
    · rw [if_pos h2, if_neg (by omega)]
    · rw [if_neg h2, if_pos (by omega)]
theorem rs_status {mC mM : zM} {x : Int} (h : Rel mC mM) : ∃ r, C_status x mC = some r ∧ M_status x mM = some r := by
  obtain ⟨z, a1, a2, a3, a4, a5, a6, a7, a8, a9, a10⟩ := h
  unfold C_status M_status
  rw [M_is_ok, Option.bind_some]
  by_cases h1 : 0 ≤ x ∧ x < 6
  · simp (disch := omega) only [if_pos, if_neg, rd_ok]
    exact ⟨_, rfl, by rw [a8 x h1.1 h1.2]⟩
  · refine ⟨-1, ?_, ?_⟩
    · by_cases h2 : x < 0
      · rw [if_pos h2]
      · rw [if_neg h2, if_neg (by omega)]
    · simp (disch := omega) only [if_pos, if_neg, ↓reduceIte]
theorem rs_octet {mC mM : zM} {x : Int} (h : Rel mC mM) : ∃ r, C_octet x mC = some r ∧ M_octet x mM = some r := by
  obtain ⟨z, a1, a2, a3, a4, a5, a6, ⟨b1, b2, b3, b4⟩, a8, a9, a10⟩ := h
  unfold C_octet M_octet
  rw [wI_ok (by omega) (by omega), M_is_ok, Option.bind_some]
  by_cases h1 : 0 ≤ x ∧ x < mC 52 1
  · simp (disch := omega) only [if_pos, if_neg, rd_ok]
    exact ⟨_, rfl, by rw [b4 x h1.1 h1.2]⟩
  · refine ⟨-1, ?_, ?_⟩
    · by_cases h2 : x < 0
      · rw [if_pos h2]
      · rw [if_neg h2, if_neg (by omega)]
    · simp (disch := omega) only [if_pos, if_neg, ↓reduceIte]
/-- fields of the two objects that stand alone: the tape's length, the seed -/
theorem Rel.seed {mC mM : zM} {x : Int} (h : Rel mC mM) (hx : 0 ≤ x) : Rel (upm mC 0 16 x) (upm mM 0 58 x) := by
  obtain ⟨z, a1, a2, a3, a4, a5, a6, a7, a8, a9, a10⟩ := h
  have hz : z < 89 ∧ 55 ≤ z := by rcases a3.1 with e | e <;> omega
  have hnb : vw mC z 0 0 ≤ 6 := a3.2.2.2.2.1.2.2
  have hng : vw mC z 0 1 ≤ 8 := a3.2.2.2.2.2.1.2.2
  have c : ∀ a, a ≠ 0 → upm mC 0 16 x a = mC a := fun a q => upm_ne q
  have d : ∀ a, a ≠ 0 → upm mM 0 58 x a = mM a := fun a q => upm_ne q
  have c0 : ∀ j, j ≠ 16 → upm mC 0 16 x 0 j = mC 0 j := fun j q => by rw [upm_eq, sets_ne q]
  have d0 : ∀ j, j ≠ 58 → upm mM 0 58 x 0 j = mM 0 j := fun j q => by rw [upm_eq, sets_ne q]
  have sl : ∀ v, sameLay mM (upm mM 0 58 x) v := fun v a q1 q2 i _ _ => by rw [d a (by omega)]
  have hv : ∀ o, 1 ≤ o → vw (upm mC 0 16 x) o = vw mC o := fun o q => funext fun j => c _ (by omega)
  refine ⟨z, ?_, ?_, ?_, ?_, ?_, ?_, ?_, ?_, ?_, ?_⟩
  · rw [c 3 (by omega), c 2 (by omega), d 1 (by omega), d0 1 (by omega)]; exact a1
  · rw [c 1 (by omega), d0 10 (by omega), d0 11 (by omega)]; exact a2
  · obtain ⟨b1, b2, b3, b4, b5⟩ := a3
    refine ⟨b1, by rw [c0 12 (by omega)]; exact b2, by rw [c0 13 (by omega)]; exact b3, by rw [d0 13 (by omega)]; exact b4, ?_⟩
    rw [d0 13 (by omega), hv z (by omega)]
    exact b5.congr (fun _ _ _ => rfl) (fun a q1 q2 => d a (by omega))
  · rw [hv z (by omega), hv 8 (by omega)]
    exact a4.congr rfl rfl hnb hng (fun j q => rfl) (sl 0)
  · obtain ⟨b1, b2, b3, b4, b5, b6, b7⟩ := a5
    unfold RU
    rw [c0 14 (by omega), c0 15 (by omega), d0 56 (by omega), d0 57 (by omega), hv z (by omega)]
    refine ⟨b1, b2, b3, b4, b5, b6, fun j q1 q2 => ?_⟩
    rw [hv _ (by omega)]
    exact (b7 j q1 q2).congr rfl rfl hnb hng (fun _ _ => rfl) (sl _)
  · rw [hv z (by omega)]
    unfold RL
    rw [c 40 (by omega), c 42 (by omega), d0 65 (by omega), d 43 (by omega), d 44 (by omega)]; exact a6
  · unfold RI
    rw [c 52 (by omega), c 53 (by omega), d0 76 (by omega), d 52 (by omega)]; exact a7
  · rw [c 54 (by omega), d 26 (by omega)]; exact a8
  · rw [upm_eq, upm_eq, sets_eq, sets_eq]; exact ⟨rfl, hx⟩
  · rw [c 7 (by omega)]; exact a10
theorem rs_seed {mC mM : zM} {x : Int} (h : Rel mC mM) : ∃ r mC' mM', C_seed x mC = some (r, mC') ∧ M_seed x mM = some (r, mM') ∧ Rel mC' mM' := by
  unfold C_seed M_seed
  by_cases h1 : x < 0
  · rw [if_pos h1, if_pos h1, C_refuse_ok (by omega) (by omega), M_refuses_ok (by omega) (by omega), Option.bind_some, Option.bind_some, if_pos (by omega)]
    exact ⟨_, _, _, rfl, rfl, h.refuse (by omega) (by omega)⟩
  · rw [if_neg h1, if_neg h1]
    exact ⟨_, _, _, rfl, rfl, h.seed (by omega)⟩
