/-! the law: its loop -/
theorem an31_b (x : Int) : 0 ≤ anI x 31 ∧ anI x 31 ≤ 31 := by
  unfold anI
  have h := pk_and (Int32.ofInt x) (m := Int32.ofInt 31) 5 (by decide)
  rw [h, nI_toInt (by omega)]
  omega
theorem law_L {K : zK} {BM b L : Nat} {xs : Nat → Int32} {cs sl : Nat} {Q : State → Prop} (hk : zLw K BM) (hcs : cs ≤ 600000) (hsl : sl ≤ 7302250) (hX : va_X b L xs (kS K) (kS K).heap) (hbl : b < (kS K).heap.size) (hL : L ≤ 3072) (hend : ∀ (mC mM : zM) (lv : List (Nat × Value)), GoW K (LH K BM mC mM) cs sl Q lv [mI 1] 1062) : ∀ (n : Nat) (i : Int) (mC mM : zM), 0 ≤ i → i ≤ (L : Int) → (L : Int) < i + (n : Int) → Rel mC mM → zG kdC mC → zG kdM mM → GoW K (LH K BM mC mM) cs sl Q (lvL K BM b i) [] 18 := by
  intro n
  induction n with
  | zero =>
    intro i mC mM i0 iL hn
    omega
  | succ n ih =>
    intro i mC mM i0 iL hn hR gC gM
    refine gw_iload_n hk.1 3 rfl dLaw_18 ?_
    refine gw_aload_n hk.1 0 rfl dLaw_19 ?_
    refine lw_slen hk hX hbl dLaw_20 ?_
    refine gw_bipush hk.1 (v := 6) rfl dLaw_21 ?_
    refine gw_isub hk.1 dLaw_23 ?_
    refine gw_top (wI_ok (x := (L : Int) - 6) (by omega) (by omega)) ?_
    refine gw_icmp_gt hk.1 (show _ ∧ _ from ⟨by omega, by omega⟩) (show _ ∧ _ from ⟨by omega, by omega⟩) dLaw_24 (fun h => ?_) (fun h => ?_)
    · refine gw_iconst hk.1 (v := 1) rfl dLaw_1061 ?_
      exact hend mC mM _
    · have i1 : i + 6 ≤ (L : Int) := by omega
      have kk : ∀ mC2 mM2 : zM, Rel mC2 mM2 → zG kdC mC2 → zG kdM mM2 → GoW K (LH K BM mC2 mM2) cs sl Q (lvL K BM b i) [] 1055 := by
        intro mC2 mM2 hR2 gC2 gM2
        refine gw_iinc hk.1 (n := 6) (lv' := [(3, mI (wI (i + 6))), (0, .ref b), (1, .ref (kB K + 0)), (2, .ref (BM + 0))]) 3 rfl (by decide) rfl dLaw_1055 ?_
        rw [wI_ok (x := i + 6) (by omega) (by omega)]
        refine gw_goto hk.1 dLaw_1058 ?_
        exact GoW.sub (lv' := lvL K BM b (i + 6)) [1, 2, 3, 0] rfl (ih (i + 6) mC2 mM2 (by omega) i1 (by omega) hR2 gC2 gM2)
      refine gw_aload_n hk.1 0 rfl dLaw_27 ?_
      refine gw_iload_n hk.1 3 rfl dLaw_28 ?_
      refine lw_sld hk hX hbl hL i0 (by omega) dLaw_29 ?_
      refine gw_bipush hk.1 (v := 31) rfl dLaw_30 ?_
      refine gw_iand hk.1 dLaw_32 ?_
      obtain ⟨v0, v1⟩ := an31_b (xv xs i)
      generalize anI (xv xs i) 31 = v at v0 v1 ⊢
      have cv : cI v := show _ ∧ _ from ⟨by omega, by omega⟩
      by_cases e0 : v = 0
      · exact gw_tin hk.1 cv dLaw_33 e0 (by decide) (by decide) rfl (by decide) (lc_feed hk hcs hsl hX hbl hL i0 i1 hR gC gM kk)
      by_cases e1 : v = 1
      · exact gw_tin hk.1 cv dLaw_33 e1 (by decide) (by decide) rfl (by decide) (lc_end hk hcs hsl hX hbl hL i0 i1 hR gC gM kk)
      by_cases e2 : v = 2
      · exact gw_tin hk.1 cv dLaw_33 e2 (by decide) (by decide) rfl (by decide) (lc_zoo hk hcs hsl hX hbl hL i0 i1 hR gC gM kk)
      by_cases e3 : v = 3
      · exact gw_tin hk.1 cv dLaw_33 e3 (by decide) (by decide) rfl (by decide) (lc_fault hk hcs hsl hX hbl hL i0 i1 hR gC gM kk)
      by_cases e4 : v = 4
      · exact gw_tin hk.1 cv dLaw_33 e4 (by decide) (by decide) rfl (by decide) (lc_has hk hcs hsl hX hbl hL i0 i1 hR gC gM kk)
      by_cases e5 : v = 5
      · exact gw_tin hk.1 cv dLaw_33 e5 (by decide) (by decide) rfl (by decide) (lc_letter hk hcs hsl hX hbl hL i0 i1 hR gC gM kk)
      by_cases e6 : v = 6
      · exact gw_tin hk.1 cv dLaw_33 e6 (by decide) (by decide) rfl (by decide) (lc_beast hk hcs hsl hX hbl hL i0 i1 hR gC gM kk)
      by_cases e7 : v = 7
      · exact gw_tin hk.1 cv dLaw_33 e7 (by decide) (by decide) rfl (by decide) (lc_guest hk hcs hsl hX hbl hL i0 i1 hR gC gM kk)
      by_cases e8 : v = 8
      · exact gw_tin hk.1 cv dLaw_33 e8 (by decide) (by decide) rfl (by decide) (lc_between hk hcs hsl hX hbl hL i0 i1 hR gC gM kk)
      by_cases e9 : v = 9
      · exact gw_tin hk.1 cv dLaw_33 e9 (by decide) (by decide) rfl (by decide) (lc_asks hk hcs hsl hX hbl hL i0 i1 hR gC gM kk)
      by_cases e10 : v = 10
      · exact gw_tin hk.1 cv dLaw_33 e10 (by decide) (by decide) rfl (by decide) (lc_alone hk hcs hsl hX hbl hL i0 i1 hR gC gM kk)
      by_cases e11 : v = 11
      · exact gw_tin hk.1 cv dLaw_33 e11 (by decide) (by decide) rfl (by decide) (lc_bring hk hcs hsl hX hbl hL i0 i1 hR gC gM kk)
      by_cases e12 : v = 12
      · exact gw_tin hk.1 cv dLaw_33 e12 (by decide) (by decide) rfl (by decide) (lc_dress hk hcs hsl hX hbl hL i0 i1 hR gC gM kk)
      by_cases e13 : v = 13
      · exact gw_tin hk.1 cv dLaw_33 e13 (by decide) (by decide) rfl (by decide) (lc_tell hk hcs hsl hX hbl hL i0 i1 hR gC gM kk)
      by_cases e14 : v = 14
      · exact gw_tin hk.1 cv dLaw_33 e14 (by decide) (by decide) rfl (by decide) (lc_tastes hk hcs hsl hX hbl hL i0 i1 hR gC gM kk)
      by_cases e15 : v = 15
      · exact gw_tin hk.1 cv dLaw_33 e15 (by decide) (by decide) rfl (by decide) (lc_send hk hcs hsl hX hbl hL i0 i1 hR gC gM kk)
      by_cases e16 : v = 16
      · exact gw_tin hk.1 cv dLaw_33 e16 (by decide) (by decide) rfl (by decide) (lc_round hk hcs hsl hX hbl hL i0 i1 hR gC gM kk)
      by_cases e17 : v = 17
      · exact gw_tin hk.1 cv dLaw_33 e17 (by decide) (by decide) rfl (by decide) (lc_walk hk hcs hsl hX hbl hL i0 i1 hR gC gM kk)
      by_cases e18 : v = 18
      · exact gw_tin hk.1 cv dLaw_33 e18 (by decide) (by decide) rfl (by decide) (lc_torn hk hcs hsl hX hbl hL i0 i1 hR gC gM kk)
      by_cases e19 : v = 19
      · exact gw_tin hk.1 cv dLaw_33 e19 (by decide) (by decide) rfl (by decide) (lc_hours hk hcs hsl hX hbl hL i0 i1 hR gC gM kk)
      by_cases e20 : v = 20
      · exact gw_tin hk.1 cv dLaw_33 e20 (by decide) (by decide) rfl (by decide) (lc_chance hk hcs hsl hX hbl hL i0 i1 hR gC gM kk)
      by_cases e21 : v = 21
      · exact gw_tin hk.1 cv dLaw_33 e21 (by decide) (by decide) rfl (by decide) (lc_change hk hcs hsl hX hbl hL i0 i1 hR gC gM kk)
      by_cases e22 : v = 22
      · exact gw_tin hk.1 cv dLaw_33 e22 (by decide) (by decide) rfl (by decide) (lc_train hk hcs hsl hX hbl hL i0 i1 hR gC gM kk)
      by_cases e23 : v = 23
      · exact gw_tin hk.1 cv dLaw_33 e23 (by decide) (by decide) rfl (by decide) (lc_swap hk hcs hsl hX hbl hL i0 i1 hR gC gM kk)
      by_cases e24 : v = 24
      · exact gw_tin hk.1 cv dLaw_33 e24 (by decide) (by decide) rfl (by decide) (lc_undo hk hcs hsl hX hbl hL i0 i1 hR gC gM kk)
      by_cases e25 : v = 25
      · exact gw_tin hk.1 cv dLaw_33 e25 (by decide) (by decide) rfl (by decide) (lc_seed hk hcs hsl hX hbl hL i0 i1 hR gC gM kk)
      by_cases e26 : v = 26
      · exact gw_tin hk.1 cv dLaw_33 e26 (by decide) (by decide) rfl (by decide) (lc_kept hk hcs hsl hX hbl hL i0 i1 hR gC gM kk)
      by_cases e27 : v = 27
      · exact gw_tin hk.1 cv dLaw_33 e27 (by decide) (by decide) rfl (by decide) (lc_image hk hcs hsl hX hbl hL i0 i1 hR gC gM kk)
      by_cases e28 : v = 28
      · exact gw_tin hk.1 cv dLaw_33 e28 (by decide) (by decide) rfl (by decide) (lc_octet hk hcs hsl hX hbl hL i0 i1 hR gC gM kk)
      by_cases e29 : v = 29
      · exact gw_tin hk.1 cv dLaw_33 e29 (by decide) (by decide) rfl (by decide) (lc_on hk hcs hsl hX hbl hL i0 i1 hR gC gM kk)
      by_cases e30 : v = 30
      · exact gw_tin hk.1 cv dLaw_33 e30 (by decide) (by decide) rfl (by decide) (lc_status hk hcs hsl hX hbl hL i0 i1 hR gC gM kk)
      exact gw_tout hk.1 cv dLaw_33 (Or.inr (by omega)) (by decide) (kk mC mM hR gC gM)
