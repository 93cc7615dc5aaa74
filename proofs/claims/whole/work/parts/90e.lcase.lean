/-! the law: its 31 cases -/
theorem mv_X11_feed : zMv 11 yX11_feed := ⟨inT3 65 rfl rfl, inT3 66 rfl rfl, TX11, rfl⟩
theorem mv_X12_feed : zMv 12 yX12_feed := ⟨inT7 17 rfl rfl, inT7 18 rfl rfl, TX12, rfl⟩
theorem mv_X11_end : zMv 11 yX11_end := ⟨inT3 77 rfl rfl, inT3 78 rfl rfl, TX11, rfl⟩
theorem mv_X12_end : zMv 12 yX12_end := ⟨inT7 29 rfl rfl, inT7 30 rfl rfl, TX12, rfl⟩
theorem mv_X11_zoo : zMv 11 yX11_zoo := ⟨inT3 81 rfl rfl, inT3 82 rfl rfl, TX11, rfl⟩
theorem mv_X12_zoo : zMv 12 yX12_zoo := ⟨inT7 33 rfl rfl, inT7 34 rfl rfl, TX12, rfl⟩
theorem mv_X11_fault : zMv 11 yX11_fault := ⟨inT4 33 rfl rfl, inT4 34 rfl rfl, TX11, rfl⟩
theorem mv_X12_fault : zMv 12 yX12_fault := ⟨inT7 221 rfl rfl, inT7 222 rfl rfl, TX12, rfl⟩
theorem mv_X11_has : zMv 11 yX11_has := ⟨inT4 37 rfl rfl, inT4 38 rfl rfl, TX11, rfl⟩
theorem mv_X12_has : zMv 12 yX12_has := ⟨inT8 1 rfl rfl, inT8 2 rfl rfl, TX12, rfl⟩
theorem mv_X11_letter : zMv 11 yX11_letter := ⟨inT4 53 rfl rfl, inT4 54 rfl rfl, TX11, rfl⟩
theorem mv_X12_letter : zMv 12 yX12_letter := ⟨inT8 17 rfl rfl, inT8 18 rfl rfl, TX12, rfl⟩
theorem mv_X11_beast : zMv 11 yX11_beast := ⟨inT4 68 rfl rfl, inT4 69 rfl rfl, TX11, rfl⟩
theorem mv_X12_beast : zMv 12 yX12_beast := ⟨inT8 22 rfl rfl, inT8 23 rfl rfl, TX12, rfl⟩
theorem mv_X11_guest : zMv 11 yX11_guest := ⟨inT4 80 rfl rfl, inT4 81 rfl rfl, TX11, rfl⟩
theorem mv_X12_guest : zMv 12 yX12_guest := ⟨inT8 38 rfl rfl, inT8 39 rfl rfl, TX12, rfl⟩
theorem mv_X11_between : zMv 11 yX11_between := ⟨inT4 84 rfl rfl, inT4 85 rfl rfl, TX11, rfl⟩
theorem mv_X12_between : zMv 12 yX12_between := ⟨inT8 50 rfl rfl, inT8 51 rfl rfl, TX12, rfl⟩
theorem mv_X11_asks : zMv 11 yX11_asks := ⟨inT4 137 rfl rfl, inT4 138 rfl rfl, TX11, rfl⟩
theorem mv_X12_asks : zMv 12 yX12_asks := ⟨inT8 90 rfl rfl, inT8 91 rfl rfl, TX12, rfl⟩
theorem mv_X11_alone : zMv 11 yX11_alone := ⟨inT4 204 rfl rfl, inT4 205 rfl rfl, TX11, rfl⟩
theorem mv_X12_alone : zMv 12 yX12_alone := ⟨inT8 130 rfl rfl, inT8 131 rfl rfl, TX12, rfl⟩
theorem mv_X11_bring : zMv 11 yX11_bring := ⟨inT4 214 rfl rfl, inT4 215 rfl rfl, TX11, rfl⟩
theorem mv_X12_bring : zMv 12 yX12_bring := ⟨inT8 134 rfl rfl, inT8 135 rfl rfl, TX12, rfl⟩
theorem mv_X11_dress : zMv 11 yX11_dress := ⟨inT5 5 rfl rfl, inT5 6 rfl rfl, TX11, rfl⟩
theorem mv_X12_dress : zMv 12 yX12_dress := ⟨inT8 145 rfl rfl, inT8 146 rfl rfl, TX12, rfl⟩
theorem mv_X11_tell : zMv 11 yX11_tell := ⟨inT5 17 rfl rfl, inT5 18 rfl rfl, TX11, rfl⟩
theorem mv_X12_tell : zMv 12 yX12_tell := ⟨inT8 156 rfl rfl, inT8 157 rfl rfl, TX12, rfl⟩
theorem mv_X11_tastes : zMv 11 yX11_tastes := ⟨inT5 33 rfl rfl, inT5 34 rfl rfl, TX11, rfl⟩
theorem mv_X11_send : zMv 11 yX11_send := ⟨inT5 61 rfl rfl, inT5 62 rfl rfl, TX11, rfl⟩
theorem mv_X12_send : zMv 12 yX12_send := ⟨inT8 172 rfl rfl, inT8 173 rfl rfl, TX12, rfl⟩
theorem mv_X11_round : zMv 11 yX11_round := ⟨inT5 74 rfl rfl, inT5 75 rfl rfl, TX11, rfl⟩
theorem mv_X12_round : zMv 12 yX12_round := ⟨inT8 177 rfl rfl, inT8 178 rfl rfl, TX12, rfl⟩
theorem mv_X11_walk : zMv 11 yX11_walk := ⟨inT5 105 rfl rfl, inT5 106 rfl rfl, TX11, rfl⟩
theorem mv_X12_walk : zMv 12 yX12_walk := ⟨inT8 189 rfl rfl, inT8 190 rfl rfl, TX12, rfl⟩
theorem mv_X11_torn : zMv 11 yX11_torn := ⟨inT5 122 rfl rfl, inT5 123 rfl rfl, TX11, rfl⟩
theorem mv_X12_torn : zMv 12 yX12_torn := ⟨inT8 193 rfl rfl, inT8 194 rfl rfl, TX12, rfl⟩
theorem mv_X11_hours : zMv 11 yX11_hours := ⟨inT5 134 rfl rfl, inT5 135 rfl rfl, TX11, rfl⟩
theorem mv_X12_hours : zMv 12 yX12_hours := ⟨inT8 197 rfl rfl, inT8 198 rfl rfl, TX12, rfl⟩
theorem mv_X11_chance : zMv 11 yX11_chance := ⟨inT5 146 rfl rfl, inT5 147 rfl rfl, TX11, rfl⟩
theorem mv_X12_chance : zMv 12 yX12_chance := ⟨inT8 205 rfl rfl, inT8 206 rfl rfl, TX12, rfl⟩
theorem mv_X11_change : zMv 11 yX11_change := ⟨inT5 156 rfl rfl, inT5 157 rfl rfl, TX11, rfl⟩
theorem mv_X12_change : zMv 12 yX12_change := ⟨inT8 217 rfl rfl, inT8 218 rfl rfl, TX12, rfl⟩
theorem mv_X11_train : zMv 11 yX11_train := ⟨inT5 167 rfl rfl, inT5 168 rfl rfl, TX11, rfl⟩
theorem mv_X12_train : zMv 12 yX12_train := ⟨inT8 225 rfl rfl, inT8 226 rfl rfl, TX12, rfl⟩
theorem mv_X11_swap : zMv 11 yX11_swap := ⟨inT5 171 rfl rfl, inT5 172 rfl rfl, TX11, rfl⟩
theorem mv_X12_swap : zMv 12 yX12_swap := ⟨inT8 229 rfl rfl, inT8 230 rfl rfl, TX12, rfl⟩
theorem mv_X11_undo : zMv 11 yX11_undo := ⟨inT5 182 rfl rfl, inT5 183 rfl rfl, TX11, rfl⟩
theorem mv_X12_undo : zMv 12 yX12_undo := ⟨inT7 229 rfl rfl, inT7 230 rfl rfl, TX12, rfl⟩
theorem mv_X11_seed : zMv 11 yX11_seed := ⟨inT5 186 rfl rfl, inT5 187 rfl rfl, TX11, rfl⟩
theorem mv_X12_seed : zMv 12 yX12_seed := ⟨inT8 233 rfl rfl, inT8 234 rfl rfl, TX12, rfl⟩
theorem mv_X11_kept : zMv 11 yX11_kept := ⟨inT5 190 rfl rfl, inT5 191 rfl rfl, TX11, rfl⟩
theorem mv_X12_kept : zMv 12 yX12_kept := ⟨inT8 237 rfl rfl, inT8 238 rfl rfl, TX12, rfl⟩
theorem mv_X11_image : zMv 11 yX11_image := ⟨inT5 198 rfl rfl, inT5 199 rfl rfl, TX11, rfl⟩
theorem mv_X12_image : zMv 12 yX12_image := ⟨inT9 1 rfl rfl, inT9 2 rfl rfl, TX12, rfl⟩
theorem mv_X11_octet : zMv 11 yX11_octet := ⟨inT5 221 rfl rfl, inT5 222 rfl rfl, TX11, rfl⟩
theorem mv_X12_octet : zMv 12 yX12_octet := ⟨inT9 13 rfl rfl, inT9 14 rfl rfl, TX12, rfl⟩
theorem mv_X11_on : zMv 11 yX11_on := ⟨inT5 225 rfl rfl, inT5 226 rfl rfl, TX11, rfl⟩
theorem mv_X12_on : zMv 12 yX12_on := ⟨inT9 17 rfl rfl, inT9 18 rfl rfl, TX12, rfl⟩
theorem mv_X11_status : zMv 11 yX11_status := ⟨inT6 9 rfl rfl, inT6 10 rfl rfl, TX11, rfl⟩
theorem mv_X12_status : zMv 12 yX12_status := ⟨inT7 225 rfl rfl, inT7 226 rfl rfl, TX12, rfl⟩
abbrev lvL (K : zK) (BM b : Nat) (i : Int) : List (Nat × Value) := [(0, .ref b), (1, .ref (kB K + 0)), (2, .ref (BM + 0)), (3, mI i)]
theorem lc_feed {K : zK} {BM b L : Nat} {xs : Nat → Int32} {cs sl : Nat} {Q : State → Prop} {mC mM : zM} {i : Int} (hk : zLw K BM) (hcs : cs ≤ 600000) (hsl : sl ≤ 7302250) (hX : va_X b L xs (kS K) (kS K).heap) (hbl : b < (kS K).heap.size) (hL : L ≤ 3072) (i0 : 0 ≤ i) (i1 : i + 6 ≤ (L : Int)) (hR : Rel mC mM) (gC : zG kdC mC) (gM : zG kdM mM) (kk : ∀ mC2 mM2 : zM, Rel mC2 mM2 → zG kdC mC2 → zG kdM mM2 → GoW K (LH K BM mC2 mM2) cs sl Q (lvL K BM b i) [] 1055) : GoW K (LH K BM mC mM) cs sl Q (lvL K BM b i) [] 172 := by
  obtain ⟨a, ea, c, ec, e1, e2⟩ := @rs_feed mC mM (xv xs (i + 1)) (xv xs (i + 2)) (xv xs (i + 3)) (xv xs (i + 4)) (xv xs (i + 5)) hR
  refine gw_aload_n hk.1 1 rfl dLaw_172 ?_
  refine gw_aload_n hk.1 0 rfl dLaw_173 ?_
  refine gw_iload_n hk.1 3 rfl dLaw_174 ?_
  refine gw_iconst hk.1 (v := 1) rfl dLaw_175 ?_
  refine gw_iadd hk.1 dLaw_176 ?_
  refine gw_top (wI_ok (x := i + 1) (by omega) (by omega)) ?_
  refine lw_sld hk hX hbl hL (by omega) (by omega) dLaw_177 ?_
  refine gw_aload_n hk.1 0 rfl dLaw_178 ?_
  refine gw_iload_n hk.1 3 rfl dLaw_179 ?_
  refine gw_iconst hk.1 (v := 2) rfl dLaw_180 ?_
  refine gw_iadd hk.1 dLaw_181 ?_
  refine gw_top (wI_ok (x := i + 2) (by omega) (by omega)) ?_
  refine lw_sld hk hX hbl hL (by omega) (by omega) dLaw_182 ?_
  refine gw_aload_n hk.1 0 rfl dLaw_183 ?_
  refine gw_iload_n hk.1 3 rfl dLaw_184 ?_
  refine gw_iconst hk.1 (v := 3) rfl dLaw_185 ?_
  refine gw_iadd hk.1 dLaw_186 ?_
  refine gw_top (wI_ok (x := i + 3) (by omega) (by omega)) ?_
  refine lw_sld hk hX hbl hL (by omega) (by omega) dLaw_187 ?_
  refine gw_aload_n hk.1 0 rfl dLaw_188 ?_
  refine gw_iload_n hk.1 3 rfl dLaw_189 ?_
  refine gw_iconst hk.1 (v := 4) rfl dLaw_190 ?_
  refine gw_iadd hk.1 dLaw_191 ?_
  refine gw_top (wI_ok (x := i + 4) (by omega) (by omega)) ?_
  refine lw_sld hk hX hbl hL (by omega) (by omega) dLaw_192 ?_
  refine gw_aload_n hk.1 0 rfl dLaw_193 ?_
  refine gw_iload_n hk.1 3 rfl dLaw_194 ?_
  refine gw_iconst hk.1 (v := 5) rfl dLaw_195 ?_
  refine gw_iadd hk.1 dLaw_196 ?_
  refine gw_top (wI_ok (x := i + 5) (by omega) (by omega)) ?_
  refine lw_sld hk hX hbl hL (by omega) (by omega) dLaw_197 ?_
  refine lw_callC hk (t := 0) (y := yX11_feed) (As := [mI (xv xs (i + 1)), mI (xv xs (i + 2)), mI (xv xs (i + 3)), mI (xv xs (i + 4)), mI (xv xs (i + 5))]) (st := []) (by decide) mf_X11_feed (inT3 64 rfl rfl) mv_X11_feed (Nat.le_of_ble_eq_true rfl) hcs hsl rfl (Nat.le_of_ble_eq_true rfl) rfl dLaw_198 (met_C_feed (kL K) (kD K) (kaC K) (kB K) 249 (fun id h => kdC_lt h) gC cI_xv cI_xv cI_xv cI_xv cI_xv ea) (fun gC1 cC1 => ?_)
  refine gw_aload_n hk.1 2 rfl dLaw_201 ?_
  refine gw_aload_n hk.1 0 rfl dLaw_202 ?_
  refine gw_iload_n hk.1 3 rfl dLaw_203 ?_
  refine gw_iconst hk.1 (v := 1) rfl dLaw_204 ?_
  refine gw_iadd hk.1 dLaw_205 ?_
  refine gw_top (wI_ok (x := i + 1) (by omega) (by omega)) ?_
  refine lw_sld hk hX hbl hL (by omega) (by omega) dLaw_206 ?_
  refine gw_aload_n hk.1 0 rfl dLaw_207 ?_
  refine gw_iload_n hk.1 3 rfl dLaw_208 ?_
  refine gw_iconst hk.1 (v := 2) rfl dLaw_209 ?_
  refine gw_iadd hk.1 dLaw_210 ?_
  refine gw_top (wI_ok (x := i + 2) (by omega) (by omega)) ?_
  refine lw_sld hk hX hbl hL (by omega) (by omega) dLaw_211 ?_
  refine gw_aload_n hk.1 0 rfl dLaw_212 ?_
  refine gw_iload_n hk.1 3 rfl dLaw_213 ?_
  refine gw_iconst hk.1 (v := 3) rfl dLaw_214 ?_
  refine gw_iadd hk.1 dLaw_215 ?_
  refine gw_top (wI_ok (x := i + 3) (by omega) (by omega)) ?_
  refine lw_sld hk hX hbl hL (by omega) (by omega) dLaw_216 ?_
  refine gw_aload_n hk.1 0 rfl dLaw_217 ?_
  refine gw_iload_n hk.1 3 rfl dLaw_218 ?_
  refine gw_iconst hk.1 (v := 4) rfl dLaw_219 ?_
  refine gw_iadd hk.1 dLaw_220 ?_
  refine gw_top (wI_ok (x := i + 4) (by omega) (by omega)) ?_
  refine lw_sld hk hX hbl hL (by omega) (by omega) dLaw_221 ?_
  refine gw_aload_n hk.1 0 rfl dLaw_222 ?_
  refine gw_iload_n hk.1 3 rfl dLaw_223 ?_
  refine gw_iconst hk.1 (v := 5) rfl dLaw_224 ?_
  refine gw_iadd hk.1 dLaw_225 ?_
  refine gw_top (wI_ok (x := i + 5) (by omega) (by omega)) ?_
  refine lw_sld hk hX hbl hL (by omega) (by omega) dLaw_226 ?_
  refine lw_callM hk (t := 0) (y := yX12_feed) (As := [mI (xv xs (i + 1)), mI (xv xs (i + 2)), mI (xv xs (i + 3)), mI (xv xs (i + 4)), mI (xv xs (i + 5))]) (st := [mI a.1]) (by decide) mf_X12_feed (inT7 16 rfl rfl) mv_X12_feed (Nat.le_of_ble_eq_true rfl) hcs hsl rfl (Nat.le_of_ble_eq_true rfl) rfl dLaw_227 (met_M_feed (kL K) (kD K) (kaC K) BM 53 (fun id h => kdM_lt h) gM cI_xv cI_xv cI_xv cI_xv cI_xv ec) (fun gM1 cM1 => ?_)
  exact gw_icmp_eq hk.1 cC1 cM1 dLaw_230 (fun _ => kk _ _ e2 gC1 gM1) (fun h => absurd e1 h)
theorem lc_end {K : zK} {BM b L : Nat} {xs : Nat → Int32} {cs sl : Nat} {Q : State → Prop} {mC mM : zM} {i : Int} (hk : zLw K BM) (hcs : cs ≤ 600000) (hsl : sl ≤ 7302250) (hX : va_X b L xs (kS K) (kS K).heap) (hbl : b < (kS K).heap.size) (hL : L ≤ 3072) (i0 : 0 ≤ i) (i1 : i + 6 ≤ (L : Int)) (hR : Rel mC mM) (gC : zG kdC mC) (gM : zG kdM mM) (kk : ∀ mC2 mM2 : zM, Rel mC2 mM2 → zG kdC mC2 → zG kdM mM2 → GoW K (LH K BM mC2 mM2) cs sl Q (lvL K BM b i) [] 1055) : GoW K (LH K BM mC mM) cs sl Q (lvL K BM b i) [] 235 := by
  obtain ⟨a, ea, c, ec, e1, e2⟩ := @rs_end mC mM (xv xs (i + 1)) hR
  refine gw_aload_n hk.1 1 rfl dLaw_235 ?_
  refine gw_aload_n hk.1 0 rfl dLaw_236 ?_
  refine gw_iload_n hk.1 3 rfl dLaw_237 ?_
  refine gw_iconst hk.1 (v := 1) rfl dLaw_238 ?_
  refine gw_iadd hk.1 dLaw_239 ?_
  refine gw_top (wI_ok (x := i + 1) (by omega) (by omega)) ?_
  refine lw_sld hk hX hbl hL (by omega) (by omega) dLaw_240 ?_
  refine lw_callC hk (t := 4) (y := yX11_end) (As := [mI (xv xs (i + 1))]) (st := []) (by decide) mf_X11_end (inT3 76 rfl rfl) mv_X11_end (Nat.le_of_ble_eq_true rfl) hcs hsl rfl (Nat.le_of_ble_eq_true rfl) rfl dLaw_241 (met_C_end (kL K) (kD K) (kaC K) (kB K) 249 (fun id h => kdC_lt h) gC cI_xv ea) (fun gC1 cC1 => ?_)
  refine gw_aload_n hk.1 2 rfl dLaw_244 ?_
  refine gw_aload_n hk.1 0 rfl dLaw_245 ?_
  refine gw_iload_n hk.1 3 rfl dLaw_246 ?_
  refine gw_iconst hk.1 (v := 1) rfl dLaw_247 ?_
  refine gw_iadd hk.1 dLaw_248 ?_
  refine gw_top (wI_ok (x := i + 1) (by omega) (by omega)) ?_
  refine lw_sld hk hX hbl hL (by omega) (by omega) dLaw_249 ?_
  refine lw_callM hk (t := 4) (y := yX12_end) (As := [mI (xv xs (i + 1))]) (st := [mI a.1]) (by decide) mf_X12_end (inT7 28 rfl rfl) mv_X12_end (Nat.le_of_ble_eq_true rfl) hcs hsl rfl (Nat.le_of_ble_eq_true rfl) rfl dLaw_250 (met_M_end (kL K) (kD K) (kaC K) BM 53 (fun id h => kdM_lt h) gM cI_xv ec) (fun gM1 cM1 => ?_)
  exact gw_icmp_eq hk.1 cC1 cM1 dLaw_253 (fun _ => kk _ _ e2 gC1 gM1) (fun h => absurd e1 h)
theorem lc_zoo {K : zK} {BM b L : Nat} {xs : Nat → Int32} {cs sl : Nat} {Q : State → Prop} {mC mM : zM} {i : Int} (hk : zLw K BM) (hcs : cs ≤ 600000) (hsl : sl ≤ 7302250) (hX : va_X b L xs (kS K) (kS K).heap) (hbl : b < (kS K).heap.size) (hL : L ≤ 3072) (i0 : 0 ≤ i) (i1 : i + 6 ≤ (L : Int)) (hR : Rel mC mM) (gC : zG kdC mC) (gM : zG kdM mM) (kk : ∀ mC2 mM2 : zM, Rel mC2 mM2 → zG kdC mC2 → zG kdM mM2 → GoW K (LH K BM mC2 mM2) cs sl Q (lvL K BM b i) [] 1055) : GoW K (LH K BM mC mM) cs sl Q (lvL K BM b i) [] 258 := by
  obtain ⟨a, ea, c, ec, e1, e2⟩ := @rs_zoo mC mM  hR
  refine gw_aload_n hk.1 1 rfl dLaw_258 ?_
  refine lw_callC hk (t := 0) (y := yX11_zoo) (As := []) (st := []) (by decide) mf_X11_zoo (inT3 80 rfl rfl) mv_X11_zoo (Nat.le_of_ble_eq_true rfl) hcs hsl rfl (Nat.le_of_ble_eq_true rfl) rfl dLaw_259 (met_C_zoo (kL K) (kD K) (kaC K) (kB K) 249 (fun id h => kdC_lt h) gC  ea) (fun gC1 cC1 => ?_)
  refine gw_aload_n hk.1 2 rfl dLaw_262 ?_
  refine lw_callM hk (t := 0) (y := yX12_zoo) (As := []) (st := [mI a.1]) (by decide) mf_X12_zoo (inT7 32 rfl rfl) mv_X12_zoo (Nat.le_of_ble_eq_true rfl) hcs hsl rfl (Nat.le_of_ble_eq_true rfl) rfl dLaw_263 (met_M_zoo (kL K) (kD K) (kaC K) BM 53 (fun id h => kdM_lt h) gM  ec) (fun gM1 cM1 => ?_)
  exact gw_icmp_eq hk.1 cC1 cM1 dLaw_266 (fun _ => kk _ _ e2 gC1 gM1) (fun h => absurd e1 h)
theorem lc_fault {K : zK} {BM b L : Nat} {xs : Nat → Int32} {cs sl : Nat} {Q : State → Prop} {mC mM : zM} {i : Int} (hk : zLw K BM) (hcs : cs ≤ 600000) (hsl : sl ≤ 7302250) (hX : va_X b L xs (kS K) (kS K).heap) (hbl : b < (kS K).heap.size) (hL : L ≤ 3072) (i0 : 0 ≤ i) (i1 : i + 6 ≤ (L : Int)) (hR : Rel mC mM) (gC : zG kdC mC) (gM : zG kdM mM) (kk : ∀ mC2 mM2 : zM, Rel mC2 mM2 → zG kdC mC2 → zG kdM mM2 → GoW K (LH K BM mC2 mM2) cs sl Q (lvL K BM b i) [] 1055) : GoW K (LH K BM mC mM) cs sl Q (lvL K BM b i) [] 271 := by
  obtain ⟨a, ea, c, ec, e1⟩ := @rs_fault mC mM (xv xs (i + 1)) hR
  refine gw_aload_n hk.1 1 rfl dLaw_271 ?_
  refine gw_aload_n hk.1 0 rfl dLaw_272 ?_
  refine gw_iload_n hk.1 3 rfl dLaw_273 ?_
  refine gw_iconst hk.1 (v := 1) rfl dLaw_274 ?_
  refine gw_iadd hk.1 dLaw_275 ?_
  refine gw_top (wI_ok (x := i + 1) (by omega) (by omega)) ?_
  refine lw_sld hk hX hbl hL (by omega) (by omega) dLaw_276 ?_
  refine lw_callC hk (t := 0) (y := yX11_fault) (As := [mI (xv xs (i + 1))]) (st := []) (by decide) mf_X11_fault (inT4 32 rfl rfl) mv_X11_fault (Nat.le_of_ble_eq_true rfl) hcs hsl rfl (Nat.le_of_ble_eq_true rfl) rfl dLaw_277 (met_C_fault (kL K) (kD K) (kaC K) (kB K) 249 (fun id h => kdC_lt h) gC cI_xv ea) (fun gC1 cC1 => ?_)
  refine gw_aload_n hk.1 2 rfl dLaw_280 ?_
  refine gw_aload_n hk.1 0 rfl dLaw_281 ?_
  refine gw_iload_n hk.1 3 rfl dLaw_282 ?_
  refine gw_iconst hk.1 (v := 1) rfl dLaw_283 ?_
  refine gw_iadd hk.1 dLaw_284 ?_
  refine gw_top (wI_ok (x := i + 1) (by omega) (by omega)) ?_
  refine lw_sld hk hX hbl hL (by omega) (by omega) dLaw_285 ?_
  refine lw_callM hk (t := 0) (y := yX12_fault) (As := [mI (xv xs (i + 1))]) (st := [mI a]) (by decide) mf_X12_fault (inT7 220 rfl rfl) mv_X12_fault (Nat.le_of_ble_eq_true rfl) hcs hsl rfl (Nat.le_of_ble_eq_true rfl) rfl dLaw_286 (met_M_fault (kL K) (kD K) (kaC K) BM 53 (fun id h => kdM_lt h) gM cI_xv ec) (fun gM1 cM1 => ?_)
  exact gw_icmp_eq hk.1 cC1 cM1 dLaw_289 (fun _ => kk _ _ hR gC1 gM1) (fun h => absurd e1 h)
theorem lc_has {K : zK} {BM b L : Nat} {xs : Nat → Int32} {cs sl : Nat} {Q : State → Prop} {mC mM : zM} {i : Int} (hk : zLw K BM) (hcs : cs ≤ 600000) (hsl : sl ≤ 7302250) (hX : va_X b L xs (kS K) (kS K).heap) (hbl : b < (kS K).heap.size) (hL : L ≤ 3072) (i0 : 0 ≤ i) (i1 : i + 6 ≤ (L : Int)) (hR : Rel mC mM) (gC : zG kdC mC) (gM : zG kdM mM) (kk : ∀ mC2 mM2 : zM, Rel mC2 mM2 → zG kdC mC2 → zG kdM mM2 → GoW K (LH K BM mC2 mM2) cs sl Q (lvL K BM b i) [] 1055) : GoW K (LH K BM mC mM) cs sl Q (lvL K BM b i) [] 294 := by
  obtain ⟨a, ea, c, ec, e1⟩ := @rs_has mC mM (xv xs (i + 1)) hR
  refine gw_aload_n hk.1 1 rfl dLaw_294 ?_
  refine gw_aload_n hk.1 0 rfl dLaw_295 ?_
  refine gw_iload_n hk.1 3 rfl dLaw_296 ?_
  refine gw_iconst hk.1 (v := 1) rfl dLaw_297 ?_
  refine gw_iadd hk.1 dLaw_298 ?_
  refine gw_top (wI_ok (x := i + 1) (by omega) (by omega)) ?_
  refine lw_sld hk hX hbl hL (by omega) (by omega) dLaw_299 ?_
  refine lw_callC hk (t := 0) (y := yX11_has) (As := [mI (xv xs (i + 1))]) (st := []) (by decide) mf_X11_has (inT4 36 rfl rfl) mv_X11_has (Nat.le_of_ble_eq_true rfl) hcs hsl rfl (Nat.le_of_ble_eq_true rfl) rfl dLaw_300 (met_C_has (kL K) (kD K) (kaC K) (kB K) 249 (fun id h => kdC_lt h) gC cI_xv ea) (fun gC1 cC1 => ?_)
  refine gw_aload_n hk.1 2 rfl dLaw_303 ?_
  refine gw_aload_n hk.1 0 rfl dLaw_304 ?_
  refine gw_iload_n hk.1 3 rfl dLaw_305 ?_
  refine gw_iconst hk.1 (v := 1) rfl dLaw_306 ?_
  refine gw_iadd hk.1 dLaw_307 ?_
  refine gw_top (wI_ok (x := i + 1) (by omega) (by omega)) ?_
  refine lw_sld hk hX hbl hL (by omega) (by omega) dLaw_308 ?_
  refine lw_callM hk (t := 0) (y := yX12_has) (As := [mI (xv xs (i + 1))]) (st := [mI a]) (by decide) mf_X12_has (inT8 0 rfl rfl) mv_X12_has (Nat.le_of_ble_eq_true rfl) hcs hsl rfl (Nat.le_of_ble_eq_true rfl) rfl dLaw_309 (met_M_has (kL K) (kD K) (kaC K) BM 53 (fun id h => kdM_lt h) gM cI_xv ec) (fun gM1 cM1 => ?_)
  exact gw_icmp_eq hk.1 cC1 cM1 dLaw_312 (fun _ => kk _ _ hR gC1 gM1) (fun h => absurd e1 h)
theorem lc_letter {K : zK} {BM b L : Nat} {xs : Nat → Int32} {cs sl : Nat} {Q : State → Prop} {mC mM : zM} {i : Int} (hk : zLw K BM) (hcs : cs ≤ 600000) (hsl : sl ≤ 7302250) (hX : va_X b L xs (kS K) (kS K).heap) (hbl : b < (kS K).heap.size) (hL : L ≤ 3072) (i0 : 0 ≤ i) (i1 : i + 6 ≤ (L : Int)) (hR : Rel mC mM) (gC : zG kdC mC) (gM : zG kdM mM) (kk : ∀ mC2 mM2 : zM, Rel mC2 mM2 → zG kdC mC2 → zG kdM mM2 → GoW K (LH K BM mC2 mM2) cs sl Q (lvL K BM b i) [] 1055) : GoW K (LH K BM mC mM) cs sl Q (lvL K BM b i) [] 317 := by
  obtain ⟨a, ea, c, ec, e1⟩ := @rs_letter mC mM (xv xs (i + 1)) (xv xs (i + 2)) (xv xs (i + 3)) hR cI_xv cI_xv cI_xv
  refine gw_aload_n hk.1 1 rfl dLaw_317 ?_
  refine gw_aload_n hk.1 0 rfl dLaw_318 ?_
  refine gw_iload_n hk.1 3 rfl dLaw_319 ?_
  refine gw_iconst hk.1 (v := 1) rfl dLaw_320 ?_
  refine gw_iadd hk.1 dLaw_321 ?_
  refine gw_top (wI_ok (x := i + 1) (by omega) (by omega)) ?_
  refine lw_sld hk hX hbl hL (by omega) (by omega) dLaw_322 ?_
  refine gw_aload_n hk.1 0 rfl dLaw_323 ?_
  refine gw_iload_n hk.1 3 rfl dLaw_324 ?_
  refine gw_iconst hk.1 (v := 2) rfl dLaw_325 ?_
  refine gw_iadd hk.1 dLaw_326 ?_
  refine gw_top (wI_ok (x := i + 2) (by omega) (by omega)) ?_
  refine lw_sld hk hX hbl hL (by omega) (by omega) dLaw_327 ?_
  refine gw_aload_n hk.1 0 rfl dLaw_328 ?_
  refine gw_iload_n hk.1 3 rfl dLaw_329 ?_
  refine gw_iconst hk.1 (v := 3) rfl dLaw_330 ?_
  refine gw_iadd hk.1 dLaw_331 ?_
  refine gw_top (wI_ok (x := i + 3) (by omega) (by omega)) ?_
  refine lw_sld hk hX hbl hL (by omega) (by omega) dLaw_332 ?_
  refine lw_callC hk (t := 0) (y := yX11_letter) (As := [mI (xv xs (i + 1)), mI (xv xs (i + 2)), mI (xv xs (i + 3))]) (st := []) (by decide) mf_X11_letter (inT4 52 rfl rfl) mv_X11_letter (Nat.le_of_ble_eq_true rfl) hcs hsl rfl (Nat.le_of_ble_eq_true rfl) rfl dLaw_333 (met_C_letter (kL K) (kD K) (kaC K) (kB K) 249 (fun id h => kdC_lt h) gC cI_xv cI_xv cI_xv ea) (fun gC1 cC1 => ?_)
  refine gw_aload_n hk.1 2 rfl dLaw_336 ?_
  refine gw_aload_n hk.1 0 rfl dLaw_337 ?_
  refine gw_iload_n hk.1 3 rfl dLaw_338 ?_
  refine gw_iconst hk.1 (v := 1) rfl dLaw_339 ?_
  refine gw_iadd hk.1 dLaw_340 ?_
  refine gw_top (wI_ok (x := i + 1) (by omega) (by omega)) ?_
  refine lw_sld hk hX hbl hL (by omega) (by omega) dLaw_341 ?_
  refine gw_aload_n hk.1 0 rfl dLaw_342 ?_
  refine gw_iload_n hk.1 3 rfl dLaw_343 ?_
  refine gw_iconst hk.1 (v := 2) rfl dLaw_344 ?_
  refine gw_iadd hk.1 dLaw_345 ?_
  refine gw_top (wI_ok (x := i + 2) (by omega) (by omega)) ?_
  refine lw_sld hk hX hbl hL (by omega) (by omega) dLaw_346 ?_
  refine gw_aload_n hk.1 0 rfl dLaw_347 ?_
  refine gw_iload_n hk.1 3 rfl dLaw_348 ?_
  refine gw_iconst hk.1 (v := 3) rfl dLaw_349 ?_
  refine gw_iadd hk.1 dLaw_350 ?_
  refine gw_top (wI_ok (x := i + 3) (by omega) (by omega)) ?_
  refine lw_sld hk hX hbl hL (by omega) (by omega) dLaw_351 ?_
  refine lw_callM hk (t := 0) (y := yX12_letter) (As := [mI (xv xs (i + 1)), mI (xv xs (i + 2)), mI (xv xs (i + 3))]) (st := [mI a]) (by decide) mf_X12_letter (inT8 16 rfl rfl) mv_X12_letter (Nat.le_of_ble_eq_true rfl) hcs hsl rfl (Nat.le_of_ble_eq_true rfl) rfl dLaw_352 (met_M_letter (kL K) (kD K) (kaC K) BM 53 (fun id h => kdM_lt h) gM cI_xv cI_xv cI_xv ec) (fun gM1 cM1 => ?_)
  exact gw_icmp_eq hk.1 cC1 cM1 dLaw_355 (fun _ => kk _ _ hR gC1 gM1) (fun h => absurd e1 h)
theorem lc_beast {K : zK} {BM b L : Nat} {xs : Nat → Int32} {cs sl : Nat} {Q : State → Prop} {mC mM : zM} {i : Int} (hk : zLw K BM) (hcs : cs ≤ 600000) (hsl : sl ≤ 7302250) (hX : va_X b L xs (kS K) (kS K).heap) (hbl : b < (kS K).heap.size) (hL : L ≤ 3072) (i0 : 0 ≤ i) (i1 : i + 6 ≤ (L : Int)) (hR : Rel mC mM) (gC : zG kdC mC) (gM : zG kdM mM) (kk : ∀ mC2 mM2 : zM, Rel mC2 mM2 → zG kdC mC2 → zG kdM mM2 → GoW K (LH K BM mC2 mM2) cs sl Q (lvL K BM b i) [] 1055) : GoW K (LH K BM mC mM) cs sl Q (lvL K BM b i) [] 360 := by
  obtain ⟨a, ea, c, ec, e1⟩ := @rs_beast mC mM (xv xs (i + 1)) (xv xs (i + 2)) hR
  refine gw_aload_n hk.1 1 rfl dLaw_360 ?_
  refine gw_aload_n hk.1 0 rfl dLaw_361 ?_
  refine gw_iload_n hk.1 3 rfl dLaw_362 ?_
  refine gw_iconst hk.1 (v := 1) rfl dLaw_363 ?_
  refine gw_iadd hk.1 dLaw_364 ?_
  refine gw_top (wI_ok (x := i + 1) (by omega) (by omega)) ?_
  refine lw_sld hk hX hbl hL (by omega) (by omega) dLaw_365 ?_
  refine gw_aload_n hk.1 0 rfl dLaw_366 ?_
  refine gw_iload_n hk.1 3 rfl dLaw_367 ?_
  refine gw_iconst hk.1 (v := 2) rfl dLaw_368 ?_
  refine gw_iadd hk.1 dLaw_369 ?_
  refine gw_top (wI_ok (x := i + 2) (by omega) (by omega)) ?_
  refine lw_sld hk hX hbl hL (by omega) (by omega) dLaw_370 ?_
  refine lw_callC hk (t := 0) (y := yX11_beast) (As := [mI (xv xs (i + 1)), mI (xv xs (i + 2))]) (st := []) (by decide) mf_X11_beast (inT4 67 rfl rfl) mv_X11_beast (Nat.le_of_ble_eq_true rfl) hcs hsl rfl (Nat.le_of_ble_eq_true rfl) rfl dLaw_371 (met_C_beast (kL K) (kD K) (kaC K) (kB K) 249 (fun id h => kdC_lt h) gC cI_xv cI_xv ea) (fun gC1 cC1 => ?_)
  refine gw_aload_n hk.1 2 rfl dLaw_374 ?_
  refine gw_aload_n hk.1 0 rfl dLaw_375 ?_
  refine gw_iload_n hk.1 3 rfl dLaw_376 ?_
  refine gw_iconst hk.1 (v := 1) rfl dLaw_377 ?_
  refine gw_iadd hk.1 dLaw_378 ?_
  refine gw_top (wI_ok (x := i + 1) (by omega) (by omega)) ?_
  refine lw_sld hk hX hbl hL (by omega) (by omega) dLaw_379 ?_
  refine gw_aload_n hk.1 0 rfl dLaw_380 ?_
  refine gw_iload_n hk.1 3 rfl dLaw_381 ?_
  refine gw_iconst hk.1 (v := 2) rfl dLaw_382 ?_
  refine gw_iadd hk.1 dLaw_383 ?_
  refine gw_top (wI_ok (x := i + 2) (by omega) (by omega)) ?_
  refine lw_sld hk hX hbl hL (by omega) (by omega) dLaw_384 ?_
  refine lw_callM hk (t := 0) (y := yX12_beast) (As := [mI (xv xs (i + 1)), mI (xv xs (i + 2))]) (st := [mI a]) (by decide) mf_X12_beast (inT8 21 rfl rfl) mv_X12_beast (Nat.le_of_ble_eq_true rfl) hcs hsl rfl (Nat.le_of_ble_eq_true rfl) rfl dLaw_385 (met_M_beast (kL K) (kD K) (kaC K) BM 53 (fun id h => kdM_lt h) gM cI_xv cI_xv ec) (fun gM1 cM1 => ?_)
  exact gw_icmp_eq hk.1 cC1 cM1 dLaw_388 (fun _ => kk _ _ hR gC1 gM1) (fun h => absurd e1 h)
theorem lc_guest {K : zK} {BM b L : Nat} {xs : Nat → Int32} {cs sl : Nat} {Q : State → Prop} {mC mM : zM} {i : Int} (hk : zLw K BM) (hcs : cs ≤ 600000) (hsl : sl ≤ 7302250) (hX : va_X b L xs (kS K) (kS K).heap) (hbl : b < (kS K).heap.size) (hL : L ≤ 3072) (i0 : 0 ≤ i) (i1 : i + 6 ≤ (L : Int)) (hR : Rel mC mM) (gC : zG kdC mC) (gM : zG kdM mM) (kk : ∀ mC2 mM2 : zM, Rel mC2 mM2 → zG kdC mC2 → zG kdM mM2 → GoW K (LH K BM mC2 mM2) cs sl Q (lvL K BM b i) [] 1055) : GoW K (LH K BM mC mM) cs sl Q (lvL K BM b i) [] 393 := by
  obtain ⟨a, ea, c, ec, e1⟩ := @rs_guest mC mM (xv xs (i + 1)) (xv xs (i + 2)) hR
  refine gw_aload_n hk.1 1 rfl dLaw_393 ?_
  refine gw_aload_n hk.1 0 rfl dLaw_394 ?_
  refine gw_iload_n hk.1 3 rfl dLaw_395 ?_
  refine gw_iconst hk.1 (v := 1) rfl dLaw_396 ?_
  refine gw_iadd hk.1 dLaw_397 ?_
  refine gw_top (wI_ok (x := i + 1) (by omega) (by omega)) ?_
  refine lw_sld hk hX hbl hL (by omega) (by omega) dLaw_398 ?_
  refine gw_aload_n hk.1 0 rfl dLaw_399 ?_
  refine gw_iload_n hk.1 3 rfl dLaw_400 ?_
  refine gw_iconst hk.1 (v := 2) rfl dLaw_401 ?_
  refine gw_iadd hk.1 dLaw_402 ?_
  refine gw_top (wI_ok (x := i + 2) (by omega) (by omega)) ?_
  refine lw_sld hk hX hbl hL (by omega) (by omega) dLaw_403 ?_
  refine lw_callC hk (t := 0) (y := yX11_guest) (As := [mI (xv xs (i + 1)), mI (xv xs (i + 2))]) (st := []) (by decide) mf_X11_guest (inT4 79 rfl rfl) mv_X11_guest (Nat.le_of_ble_eq_true rfl) hcs hsl rfl (Nat.le_of_ble_eq_true rfl) rfl dLaw_404 (met_C_guest (kL K) (kD K) (kaC K) (kB K) 249 (fun id h => kdC_lt h) gC cI_xv cI_xv ea) (fun gC1 cC1 => ?_)
  refine gw_aload_n hk.1 2 rfl dLaw_407 ?_
  refine gw_aload_n hk.1 0 rfl dLaw_408 ?_
  refine gw_iload_n hk.1 3 rfl dLaw_409 ?_
  refine gw_iconst hk.1 (v := 1) rfl dLaw_410 ?_
  refine gw_iadd hk.1 dLaw_411 ?_
  refine gw_top (wI_ok (x := i + 1) (by omega) (by omega)) ?_
  refine lw_sld hk hX hbl hL (by omega) (by omega) dLaw_412 ?_
  refine gw_aload_n hk.1 0 rfl dLaw_413 ?_
  refine gw_iload_n hk.1 3 rfl dLaw_414 ?_
  refine gw_iconst hk.1 (v := 2) rfl dLaw_415 ?_
  refine gw_iadd hk.1 dLaw_416 ?_
  refine gw_top (wI_ok (x := i + 2) (by omega) (by omega)) ?_
  refine lw_sld hk hX hbl hL (by omega) (by omega) dLaw_417 ?_
  refine lw_callM hk (t := 0) (y := yX12_guest) (As := [mI (xv xs (i + 1)), mI (xv xs (i + 2))]) (st := [mI a]) (by decide) mf_X12_guest (inT8 37 rfl rfl) mv_X12_guest (Nat.le_of_ble_eq_true rfl) hcs hsl rfl (Nat.le_of_ble_eq_true rfl) rfl dLaw_418 (met_M_guest (kL K) (kD K) (kaC K) BM 53 (fun id h => kdM_lt h) gM cI_xv cI_xv ec) (fun gM1 cM1 => ?_)
  exact gw_icmp_eq hk.1 cC1 cM1 dLaw_421 (fun _ => kk _ _ hR gC1 gM1) (fun h => absurd e1 h)
theorem lc_between {K : zK} {BM b L : Nat} {xs : Nat → Int32} {cs sl : Nat} {Q : State → Prop} {mC mM : zM} {i : Int} (hk : zLw K BM) (hcs : cs ≤ 600000) (hsl : sl ≤ 7302250) (hX : va_X b L xs (kS K) (kS K).heap) (hbl : b < (kS K).heap.size) (hL : L ≤ 3072) (i0 : 0 ≤ i) (i1 : i + 6 ≤ (L : Int)) (hR : Rel mC mM) (gC : zG kdC mC) (gM : zG kdM mM) (kk : ∀ mC2 mM2 : zM, Rel mC2 mM2 → zG kdC mC2 → zG kdM mM2 → GoW K (LH K BM mC2 mM2) cs sl Q (lvL K BM b i) [] 1055) : GoW K (LH K BM mC mM) cs sl Q (lvL K BM b i) [] 426 := by
  obtain ⟨a, ea, c, ec, e1, e2⟩ := @rs_between mC mM (xv xs (i + 1)) (xv xs (i + 2)) (xv xs (i + 3)) hR
  refine gw_aload_n hk.1 1 rfl dLaw_426 ?_
  refine gw_aload_n hk.1 0 rfl dLaw_427 ?_
  refine gw_iload_n hk.1 3 rfl dLaw_428 ?_
  refine gw_iconst hk.1 (v := 1) rfl dLaw_429 ?_
  refine gw_iadd hk.1 dLaw_430 ?_
  refine gw_top (wI_ok (x := i + 1) (by omega) (by omega)) ?_
  refine lw_sld hk hX hbl hL (by omega) (by omega) dLaw_431 ?_
  refine gw_aload_n hk.1 0 rfl dLaw_432 ?_
  refine gw_iload_n hk.1 3 rfl dLaw_433 ?_
  refine gw_iconst hk.1 (v := 2) rfl dLaw_434 ?_
  refine gw_iadd hk.1 dLaw_435 ?_
  refine gw_top (wI_ok (x := i + 2) (by omega) (by omega)) ?_
  refine lw_sld hk hX hbl hL (by omega) (by omega) dLaw_436 ?_
  refine gw_aload_n hk.1 0 rfl dLaw_437 ?_
  refine gw_iload_n hk.1 3 rfl dLaw_438 ?_
  refine gw_iconst hk.1 (v := 3) rfl dLaw_439 ?_
  refine gw_iadd hk.1 dLaw_440 ?_
  refine gw_top (wI_ok (x := i + 3) (by omega) (by omega)) ?_
  refine lw_sld hk hX hbl hL (by omega) (by omega) dLaw_441 ?_
  refine lw_callC hk (t := 0) (y := yX11_between) (As := [mI (xv xs (i + 1)), mI (xv xs (i + 2)), mI (xv xs (i + 3))]) (st := []) (by decide) mf_X11_between (inT4 83 rfl rfl) mv_X11_between (Nat.le_of_ble_eq_true rfl) hcs hsl rfl (Nat.le_of_ble_eq_true rfl) rfl dLaw_442 (met_C_between (kL K) (kD K) (kaC K) (kB K) 249 (fun id h => kdC_lt h) gC cI_xv cI_xv cI_xv ea) (fun gC1 cC1 => ?_)
  refine gw_aload_n hk.1 2 rfl dLaw_445 ?_
  refine gw_aload_n hk.1 0 rfl dLaw_446 ?_
  refine gw_iload_n hk.1 3 rfl dLaw_447 ?_
  refine gw_iconst hk.1 (v := 1) rfl dLaw_448 ?_
  refine gw_iadd hk.1 dLaw_449 ?_
  refine gw_top (wI_ok (x := i + 1) (by omega) (by omega)) ?_
  refine lw_sld hk hX hbl hL (by omega) (by omega) dLaw_450 ?_
  refine gw_aload_n hk.1 0 rfl dLaw_451 ?_
  refine gw_iload_n hk.1 3 rfl dLaw_452 ?_
  refine gw_iconst hk.1 (v := 2) rfl dLaw_453 ?_
  refine gw_iadd hk.1 dLaw_454 ?_
  refine gw_top (wI_ok (x := i + 2) (by omega) (by omega)) ?_
  refine lw_sld hk hX hbl hL (by omega) (by omega) dLaw_455 ?_
  refine gw_aload_n hk.1 0 rfl dLaw_456 ?_
  refine gw_iload_n hk.1 3 rfl dLaw_457 ?_
  refine gw_iconst hk.1 (v := 3) rfl dLaw_458 ?_
  refine gw_iadd hk.1 dLaw_459 ?_
  refine gw_top (wI_ok (x := i + 3) (by omega) (by omega)) ?_
  refine lw_sld hk hX hbl hL (by omega) (by omega) dLaw_460 ?_
  refine lw_callM hk (t := 0) (y := yX12_between) (As := [mI (xv xs (i + 1)), mI (xv xs (i + 2)), mI (xv xs (i + 3))]) (st := [mI a.1]) (by decide) mf_X12_between (inT8 49 rfl rfl) mv_X12_between (Nat.le_of_ble_eq_true rfl) hcs hsl rfl (Nat.le_of_ble_eq_true rfl) rfl dLaw_461 (met_M_between (kL K) (kD K) (kaC K) BM 53 (fun id h => kdM_lt h) gM cI_xv cI_xv cI_xv ec) (fun gM1 cM1 => ?_)
  exact gw_icmp_eq hk.1 cC1 cM1 dLaw_464 (fun _ => kk _ _ e2 gC1 gM1) (fun h => absurd e1 h)
theorem lc_asks {K : zK} {BM b L : Nat} {xs : Nat → Int32} {cs sl : Nat} {Q : State → Prop} {mC mM : zM} {i : Int} (hk : zLw K BM) (hcs : cs ≤ 600000) (hsl : sl ≤ 7302250) (hX : va_X b L xs (kS K) (kS K).heap) (hbl : b < (kS K).heap.size) (hL : L ≤ 3072) (i0 : 0 ≤ i) (i1 : i + 6 ≤ (L : Int)) (hR : Rel mC mM) (gC : zG kdC mC) (gM : zG kdM mM) (kk : ∀ mC2 mM2 : zM, Rel mC2 mM2 → zG kdC mC2 → zG kdM mM2 → GoW K (LH K BM mC2 mM2) cs sl Q (lvL K BM b i) [] 1055) : GoW K (LH K BM mC mM) cs sl Q (lvL K BM b i) [] 469 := by
  obtain ⟨a, ea, c, ec, e1, e2⟩ := @rs_asks mC mM (xv xs (i + 1)) (xv xs (i + 2)) hR
  refine gw_aload_n hk.1 1 rfl dLaw_469 ?_
  refine gw_aload_n hk.1 0 rfl dLaw_470 ?_
  refine gw_iload_n hk.1 3 rfl dLaw_471 ?_
  refine gw_iconst hk.1 (v := 1) rfl dLaw_472 ?_
  refine gw_iadd hk.1 dLaw_473 ?_
  refine gw_top (wI_ok (x := i + 1) (by omega) (by omega)) ?_
  refine lw_sld hk hX hbl hL (by omega) (by omega) dLaw_474 ?_
  refine gw_aload_n hk.1 0 rfl dLaw_475 ?_
  refine gw_iload_n hk.1 3 rfl dLaw_476 ?_
  refine gw_iconst hk.1 (v := 2) rfl dLaw_477 ?_
  refine gw_iadd hk.1 dLaw_478 ?_
  refine gw_top (wI_ok (x := i + 2) (by omega) (by omega)) ?_
  refine lw_sld hk hX hbl hL (by omega) (by omega) dLaw_479 ?_
  refine lw_callC hk (t := 0) (y := yX11_asks) (As := [mI (xv xs (i + 1)), mI (xv xs (i + 2))]) (st := []) (by decide) mf_X11_asks (inT4 136 rfl rfl) mv_X11_asks (Nat.le_of_ble_eq_true rfl) hcs hsl rfl (Nat.le_of_ble_eq_true rfl) rfl dLaw_480 (met_C_asks (kL K) (kD K) (kaC K) (kB K) 249 (fun id h => kdC_lt h) gC cI_xv cI_xv ea) (fun gC1 cC1 => ?_)
  refine gw_aload_n hk.1 2 rfl dLaw_483 ?_
  refine gw_aload_n hk.1 0 rfl dLaw_484 ?_
  refine gw_iload_n hk.1 3 rfl dLaw_485 ?_
  refine gw_iconst hk.1 (v := 1) rfl dLaw_486 ?_
  refine gw_iadd hk.1 dLaw_487 ?_
  refine gw_top (wI_ok (x := i + 1) (by omega) (by omega)) ?_
  refine lw_sld hk hX hbl hL (by omega) (by omega) dLaw_488 ?_
  refine gw_aload_n hk.1 0 rfl dLaw_489 ?_
  refine gw_iload_n hk.1 3 rfl dLaw_490 ?_
  refine gw_iconst hk.1 (v := 2) rfl dLaw_491 ?_
  refine gw_iadd hk.1 dLaw_492 ?_
  refine gw_top (wI_ok (x := i + 2) (by omega) (by omega)) ?_
  refine lw_sld hk hX hbl hL (by omega) (by omega) dLaw_493 ?_
  refine lw_callM hk (t := 0) (y := yX12_asks) (As := [mI (xv xs (i + 1)), mI (xv xs (i + 2))]) (st := [mI a.1]) (by decide) mf_X12_asks (inT8 89 rfl rfl) mv_X12_asks (Nat.le_of_ble_eq_true rfl) hcs hsl rfl (Nat.le_of_ble_eq_true rfl) rfl dLaw_494 (met_M_asks (kL K) (kD K) (kaC K) BM 53 (fun id h => kdM_lt h) gM cI_xv cI_xv ec) (fun gM1 cM1 => ?_)
  exact gw_icmp_eq hk.1 cC1 cM1 dLaw_497 (fun _ => kk _ _ e2 gC1 gM1) (fun h => absurd e1 h)
theorem lc_alone {K : zK} {BM b L : Nat} {xs : Nat → Int32} {cs sl : Nat} {Q : State → Prop} {mC mM : zM} {i : Int} (hk : zLw K BM) (hcs : cs ≤ 600000) (hsl : sl ≤ 7302250) (hX : va_X b L xs (kS K) (kS K).heap) (hbl : b < (kS K).heap.size) (hL : L ≤ 3072) (i0 : 0 ≤ i) (i1 : i + 6 ≤ (L : Int)) (hR : Rel mC mM) (gC : zG kdC mC) (gM : zG kdM mM) (kk : ∀ mC2 mM2 : zM, Rel mC2 mM2 → zG kdC mC2 → zG kdM mM2 → GoW K (LH K BM mC2 mM2) cs sl Q (lvL K BM b i) [] 1055) : GoW K (LH K BM mC mM) cs sl Q (lvL K BM b i) [] 502 := by
  obtain ⟨a, ea, c, ec, e1, e2⟩ := @rs_alone mC mM (xv xs (i + 1)) hR
  refine gw_aload_n hk.1 1 rfl dLaw_502 ?_
  refine gw_aload_n hk.1 0 rfl dLaw_503 ?_
  refine gw_iload_n hk.1 3 rfl dLaw_504 ?_
  refine gw_iconst hk.1 (v := 1) rfl dLaw_505 ?_
  refine gw_iadd hk.1 dLaw_506 ?_
  refine gw_top (wI_ok (x := i + 1) (by omega) (by omega)) ?_
  refine lw_sld hk hX hbl hL (by omega) (by omega) dLaw_507 ?_
  refine lw_callC hk (t := 0) (y := yX11_alone) (As := [mI (xv xs (i + 1))]) (st := []) (by decide) mf_X11_alone (inT4 203 rfl rfl) mv_X11_alone (Nat.le_of_ble_eq_true rfl) hcs hsl rfl (Nat.le_of_ble_eq_true rfl) rfl dLaw_508 (met_C_alone (kL K) (kD K) (kaC K) (kB K) 249 (fun id h => kdC_lt h) gC cI_xv ea) (fun gC1 cC1 => ?_)
  refine gw_aload_n hk.1 2 rfl dLaw_511 ?_
  refine gw_aload_n hk.1 0 rfl dLaw_512 ?_
  refine gw_iload_n hk.1 3 rfl dLaw_513 ?_
  refine gw_iconst hk.1 (v := 1) rfl dLaw_514 ?_
  refine gw_iadd hk.1 dLaw_515 ?_
  refine gw_top (wI_ok (x := i + 1) (by omega) (by omega)) ?_
  refine lw_sld hk hX hbl hL (by omega) (by omega) dLaw_516 ?_
  refine lw_callM hk (t := 0) (y := yX12_alone) (As := [mI (xv xs (i + 1))]) (st := [mI a.1]) (by decide) mf_X12_alone (inT8 129 rfl rfl) mv_X12_alone (Nat.le_of_ble_eq_true rfl) hcs hsl rfl (Nat.le_of_ble_eq_true rfl) rfl dLaw_517 (met_M_alone (kL K) (kD K) (kaC K) BM 53 (fun id h => kdM_lt h) gM cI_xv ec) (fun gM1 cM1 => ?_)
  exact gw_icmp_eq hk.1 cC1 cM1 dLaw_520 (fun _ => kk _ _ e2 gC1 gM1) (fun h => absurd e1 h)
theorem lc_bring {K : zK} {BM b L : Nat} {xs : Nat → Int32} {cs sl : Nat} {Q : State → Prop} {mC mM : zM} {i : Int} (hk : zLw K BM) (hcs : cs ≤ 600000) (hsl : sl ≤ 7302250) (hX : va_X b L xs (kS K) (kS K).heap) (hbl : b < (kS K).heap.size) (hL : L ≤ 3072) (i0 : 0 ≤ i) (i1 : i + 6 ≤ (L : Int)) (hR : Rel mC mM) (gC : zG kdC mC) (gM : zG kdM mM) (kk : ∀ mC2 mM2 : zM, Rel mC2 mM2 → zG kdC mC2 → zG kdM mM2 → GoW K (LH K BM mC2 mM2) cs sl Q (lvL K BM b i) [] 1055) : GoW K (LH K BM mC mM) cs sl Q (lvL K BM b i) [] 525 := by
  obtain ⟨a, ea, c, ec, e1, e2⟩ := @rs_bring mC mM (xv xs (i + 1)) hR
  refine gw_aload_n hk.1 1 rfl dLaw_525 ?_
  refine gw_aload_n hk.1 0 rfl dLaw_526 ?_
  refine gw_iload_n hk.1 3 rfl dLaw_527 ?_
  refine gw_iconst hk.1 (v := 1) rfl dLaw_528 ?_
  refine gw_iadd hk.1 dLaw_529 ?_
  refine gw_top (wI_ok (x := i + 1) (by omega) (by omega)) ?_
  refine lw_sld hk hX hbl hL (by omega) (by omega) dLaw_530 ?_
  refine lw_callC hk (t := 0) (y := yX11_bring) (As := [mI (xv xs (i + 1))]) (st := []) (by decide) mf_X11_bring (inT4 213 rfl rfl) mv_X11_bring (Nat.le_of_ble_eq_true rfl) hcs hsl rfl (Nat.le_of_ble_eq_true rfl) rfl dLaw_531 (met_C_bring (kL K) (kD K) (kaC K) (kB K) 249 (fun id h => kdC_lt h) gC cI_xv ea) (fun gC1 cC1 => ?_)
  refine gw_aload_n hk.1 2 rfl dLaw_534 ?_
  refine gw_aload_n hk.1 0 rfl dLaw_535 ?_
  refine gw_iload_n hk.1 3 rfl dLaw_536 ?_
  refine gw_iconst hk.1 (v := 1) rfl dLaw_537 ?_
  refine gw_iadd hk.1 dLaw_538 ?_
  refine gw_top (wI_ok (x := i + 1) (by omega) (by omega)) ?_
  refine lw_sld hk hX hbl hL (by omega) (by omega) dLaw_539 ?_
  refine lw_callM hk (t := 0) (y := yX12_bring) (As := [mI (xv xs (i + 1))]) (st := [mI a.1]) (by decide) mf_X12_bring (inT8 133 rfl rfl) mv_X12_bring (Nat.le_of_ble_eq_true rfl) hcs hsl rfl (Nat.le_of_ble_eq_true rfl) rfl dLaw_540 (met_M_bring (kL K) (kD K) (kaC K) BM 53 (fun id h => kdM_lt h) gM cI_xv ec) (fun gM1 cM1 => ?_)
  exact gw_icmp_eq hk.1 cC1 cM1 dLaw_543 (fun _ => kk _ _ e2 gC1 gM1) (fun h => absurd e1 h)
theorem lc_dress {K : zK} {BM b L : Nat} {xs : Nat → Int32} {cs sl : Nat} {Q : State → Prop} {mC mM : zM} {i : Int} (hk : zLw K BM) (hcs : cs ≤ 600000) (hsl : sl ≤ 7302250) (hX : va_X b L xs (kS K) (kS K).heap) (hbl : b < (kS K).heap.size) (hL : L ≤ 3072) (i0 : 0 ≤ i) (i1 : i + 6 ≤ (L : Int)) (hR : Rel mC mM) (gC : zG kdC mC) (gM : zG kdM mM) (kk : ∀ mC2 mM2 : zM, Rel mC2 mM2 → zG kdC mC2 → zG kdM mM2 → GoW K (LH K BM mC2 mM2) cs sl Q (lvL K BM b i) [] 1055) : GoW K (LH K BM mC mM) cs sl Q (lvL K BM b i) [] 548 := by
  obtain ⟨a, ea, c, ec, e1, e2⟩ := @rs_dress mC mM (xv xs (i + 1)) (xv xs (i + 2)) (xv xs (i + 3)) hR
  refine gw_aload_n hk.1 1 rfl dLaw_548 ?_
  refine gw_aload_n hk.1 0 rfl dLaw_549 ?_
  refine gw_iload_n hk.1 3 rfl dLaw_550 ?_
  refine gw_iconst hk.1 (v := 1) rfl dLaw_551 ?_
  refine gw_iadd hk.1 dLaw_552 ?_
  refine gw_top (wI_ok (x := i + 1) (by omega) (by omega)) ?_
  refine lw_sld hk hX hbl hL (by omega) (by omega) dLaw_553 ?_
  refine gw_aload_n hk.1 0 rfl dLaw_554 ?_
  refine gw_iload_n hk.1 3 rfl dLaw_555 ?_
  refine gw_iconst hk.1 (v := 2) rfl dLaw_556 ?_
  refine gw_iadd hk.1 dLaw_557 ?_
  refine gw_top (wI_ok (x := i + 2) (by omega) (by omega)) ?_
  refine lw_sld hk hX hbl hL (by omega) (by omega) dLaw_558 ?_
  refine gw_aload_n hk.1 0 rfl dLaw_559 ?_
  refine gw_iload_n hk.1 3 rfl dLaw_560 ?_
  refine gw_iconst hk.1 (v := 3) rfl dLaw_561 ?_
  refine gw_iadd hk.1 dLaw_562 ?_
  refine gw_top (wI_ok (x := i + 3) (by omega) (by omega)) ?_
  refine lw_sld hk hX hbl hL (by omega) (by omega) dLaw_563 ?_
  refine lw_callC hk (t := 0) (y := yX11_dress) (As := [mI (xv xs (i + 1)), mI (xv xs (i + 2)), mI (xv xs (i + 3))]) (st := []) (by decide) mf_X11_dress (inT5 4 rfl rfl) mv_X11_dress (Nat.le_of_ble_eq_true rfl) hcs hsl rfl (Nat.le_of_ble_eq_true rfl) rfl dLaw_564 (met_C_dress (kL K) (kD K) (kaC K) (kB K) 249 (fun id h => kdC_lt h) gC cI_xv cI_xv cI_xv ea) (fun gC1 cC1 => ?_)
  refine gw_aload_n hk.1 2 rfl dLaw_567 ?_
  refine gw_aload_n hk.1 0 rfl dLaw_568 ?_
  refine gw_iload_n hk.1 3 rfl dLaw_569 ?_
  refine gw_iconst hk.1 (v := 1) rfl dLaw_570 ?_
  refine gw_iadd hk.1 dLaw_571 ?_
  refine gw_top (wI_ok (x := i + 1) (by omega) (by omega)) ?_
  refine lw_sld hk hX hbl hL (by omega) (by omega) dLaw_572 ?_
  refine gw_aload_n hk.1 0 rfl dLaw_573 ?_
  refine gw_iload_n hk.1 3 rfl dLaw_574 ?_
  refine gw_iconst hk.1 (v := 2) rfl dLaw_575 ?_
  refine gw_iadd hk.1 dLaw_576 ?_
  refine gw_top (wI_ok (x := i + 2) (by omega) (by omega)) ?_
  refine lw_sld hk hX hbl hL (by omega) (by omega) dLaw_577 ?_
  refine gw_aload_n hk.1 0 rfl dLaw_578 ?_
  refine gw_iload_n hk.1 3 rfl dLaw_579 ?_
  refine gw_iconst hk.1 (v := 3) rfl dLaw_580 ?_
  refine gw_iadd hk.1 dLaw_581 ?_
  refine gw_top (wI_ok (x := i + 3) (by omega) (by omega)) ?_
  refine lw_sld hk hX hbl hL (by omega) (by omega) dLaw_582 ?_
  refine lw_callM hk (t := 0) (y := yX12_dress) (As := [mI (xv xs (i + 1)), mI (xv xs (i + 2)), mI (xv xs (i + 3))]) (st := [mI a.1]) (by decide) mf_X12_dress (inT8 144 rfl rfl) mv_X12_dress (Nat.le_of_ble_eq_true rfl) hcs hsl rfl (Nat.le_of_ble_eq_true rfl) rfl dLaw_583 (met_M_dress (kL K) (kD K) (kaC K) BM 53 (fun id h => kdM_lt h) gM cI_xv cI_xv cI_xv ec) (fun gM1 cM1 => ?_)
  exact gw_icmp_eq hk.1 cC1 cM1 dLaw_586 (fun _ => kk _ _ e2 gC1 gM1) (fun h => absurd e1 h)
theorem lc_tell {K : zK} {BM b L : Nat} {xs : Nat → Int32} {cs sl : Nat} {Q : State → Prop} {mC mM : zM} {i : Int} (hk : zLw K BM) (hcs : cs ≤ 600000) (hsl : sl ≤ 7302250) (hX : va_X b L xs (kS K) (kS K).heap) (hbl : b < (kS K).heap.size) (hL : L ≤ 3072) (i0 : 0 ≤ i) (i1 : i + 6 ≤ (L : Int)) (hR : Rel mC mM) (gC : zG kdC mC) (gM : zG kdM mM) (kk : ∀ mC2 mM2 : zM, Rel mC2 mM2 → zG kdC mC2 → zG kdM mM2 → GoW K (LH K BM mC2 mM2) cs sl Q (lvL K BM b i) [] 1055) : GoW K (LH K BM mC mM) cs sl Q (lvL K BM b i) [] 591 := by
  obtain ⟨a, ea, c, ec, e1, e2⟩ := @rs_tell mC mM  hR
  refine gw_aload_n hk.1 1 rfl dLaw_591 ?_
  refine lw_callC hk (t := 0) (y := yX11_tell) (As := []) (st := []) (by decide) mf_X11_tell (inT5 16 rfl rfl) mv_X11_tell (Nat.le_of_ble_eq_true rfl) hcs hsl rfl (Nat.le_of_ble_eq_true rfl) rfl dLaw_592 (met_C_tell (kL K) (kD K) (kaC K) (kB K) 249 (fun id h => kdC_lt h) gC  ea) (fun gC1 cC1 => ?_)
  refine gw_aload_n hk.1 2 rfl dLaw_595 ?_
  refine lw_callM hk (t := 0) (y := yX12_tell) (As := []) (st := [mI a.1]) (by decide) mf_X12_tell (inT8 155 rfl rfl) mv_X12_tell (Nat.le_of_ble_eq_true rfl) hcs hsl rfl (Nat.le_of_ble_eq_true rfl) rfl dLaw_596 (met_M_tell (kL K) (kD K) (kaC K) BM 53 (fun id h => kdM_lt h) gM  ec) (fun gM1 cM1 => ?_)
  exact gw_icmp_eq hk.1 cC1 cM1 dLaw_599 (fun _ => kk _ _ e2 gC1 gM1) (fun h => absurd e1 h)
theorem lc_tastes {K : zK} {BM b L : Nat} {xs : Nat → Int32} {cs sl : Nat} {Q : State → Prop} {mC mM : zM} {i : Int} (hk : zLw K BM) (hcs : cs ≤ 600000) (hsl : sl ≤ 7302250) (hX : va_X b L xs (kS K) (kS K).heap) (hbl : b < (kS K).heap.size) (hL : L ≤ 3072) (i0 : 0 ≤ i) (i1 : i + 6 ≤ (L : Int)) (hR : Rel mC mM) (gC : zG kdC mC) (gM : zG kdM mM) (kk : ∀ mC2 mM2 : zM, Rel mC2 mM2 → zG kdC mC2 → zG kdM mM2 → GoW K (LH K BM mC2 mM2) cs sl Q (lvL K BM b i) [] 1055) : GoW K (LH K BM mC mM) cs sl Q (lvL K BM b i) [] 604 := by
  obtain ⟨a, ea, c, ec, e1, e2⟩ := @rs_tastes mC mM (xv xs (i + 1)) hR
  refine gw_aload_n hk.1 1 rfl dLaw_604 ?_
  refine gw_aload_n hk.1 0 rfl dLaw_605 ?_
  refine gw_iload_n hk.1 3 rfl dLaw_606 ?_
  refine gw_iconst hk.1 (v := 1) rfl dLaw_607 ?_
  refine gw_iadd hk.1 dLaw_608 ?_
  refine gw_top (wI_ok (x := i + 1) (by omega) (by omega)) ?_
  refine lw_sld hk hX hbl hL (by omega) (by omega) dLaw_609 ?_
  refine lw_callC hk (t := 0) (y := yX11_tastes) (As := [mI (xv xs (i + 1))]) (st := []) (by decide) mf_X11_tastes (inT5 32 rfl rfl) mv_X11_tastes (Nat.le_of_ble_eq_true rfl) hcs hsl rfl (Nat.le_of_ble_eq_true rfl) rfl dLaw_610 (met_C_tastes (kL K) (kD K) (kaC K) (kB K) 249 (fun id h => kdC_lt h) gC cI_xv ea) (fun gC1 cC1 => ?_)
  refine gw_aload_n hk.1 2 rfl dLaw_613 ?_
  refine gw_aload_n hk.1 0 rfl dLaw_614 ?_
  refine gw_iload_n hk.1 3 rfl dLaw_615 ?_
  refine gw_iconst hk.1 (v := 1) rfl dLaw_616 ?_
  refine gw_iadd hk.1 dLaw_617 ?_
  refine gw_top (wI_ok (x := i + 1) (by omega) (by omega)) ?_
  refine lw_sld hk hX hbl hL (by omega) (by omega) dLaw_618 ?_
  refine lw_callM hk (t := 0) (y := yX12_tastes) (As := [mI (xv xs (i + 1))]) (st := [mI a.1]) (by decide) mf_X12_tastes (inT8 159 rfl rfl) mv_X12_tastes (Nat.le_of_ble_eq_true rfl) hcs hsl rfl (Nat.le_of_ble_eq_true rfl) rfl dLaw_619 (met_M_tastes (kL K) (kD K) (kaC K) BM 53 (fun id h => kdM_lt h) gM cI_xv ec) (fun gM1 cM1 => ?_)
  exact gw_icmp_eq hk.1 cC1 cM1 dLaw_622 (fun _ => kk _ _ e2 gC1 gM1) (fun h => absurd e1 h)
theorem lc_send {K : zK} {BM b L : Nat} {xs : Nat → Int32} {cs sl : Nat} {Q : State → Prop} {mC mM : zM} {i : Int} (hk : zLw K BM) (hcs : cs ≤ 600000) (hsl : sl ≤ 7302250) (hX : va_X b L xs (kS K) (kS K).heap) (hbl : b < (kS K).heap.size) (hL : L ≤ 3072) (i0 : 0 ≤ i) (i1 : i + 6 ≤ (L : Int)) (hR : Rel mC mM) (gC : zG kdC mC) (gM : zG kdM mM) (kk : ∀ mC2 mM2 : zM, Rel mC2 mM2 → zG kdC mC2 → zG kdM mM2 → GoW K (LH K BM mC2 mM2) cs sl Q (lvL K BM b i) [] 1055) : GoW K (LH K BM mC mM) cs sl Q (lvL K BM b i) [] 627 := by
  obtain ⟨a, ea, c, ec, e1, e2⟩ := @rs_send mC mM (xv xs (i + 1)) hR
  refine gw_aload_n hk.1 1 rfl dLaw_627 ?_
  refine gw_aload_n hk.1 0 rfl dLaw_628 ?_
  refine gw_iload_n hk.1 3 rfl dLaw_629 ?_
  refine gw_iconst hk.1 (v := 1) rfl dLaw_630 ?_
  refine gw_iadd hk.1 dLaw_631 ?_
  refine gw_top (wI_ok (x := i + 1) (by omega) (by omega)) ?_
  refine lw_sld hk hX hbl hL (by omega) (by omega) dLaw_632 ?_
  refine lw_callC hk (t := 0) (y := yX11_send) (As := [mI (xv xs (i + 1))]) (st := []) (by decide) mf_X11_send (inT5 60 rfl rfl) mv_X11_send (Nat.le_of_ble_eq_true rfl) hcs hsl rfl (Nat.le_of_ble_eq_true rfl) rfl dLaw_633 (met_C_send (kL K) (kD K) (kaC K) (kB K) 249 (fun id h => kdC_lt h) gC cI_xv ea) (fun gC1 cC1 => ?_)
  refine gw_aload_n hk.1 2 rfl dLaw_636 ?_
  refine gw_aload_n hk.1 0 rfl dLaw_637 ?_
  refine gw_iload_n hk.1 3 rfl dLaw_638 ?_
  refine gw_iconst hk.1 (v := 1) rfl dLaw_639 ?_
  refine gw_iadd hk.1 dLaw_640 ?_
  refine gw_top (wI_ok (x := i + 1) (by omega) (by omega)) ?_
  refine lw_sld hk hX hbl hL (by omega) (by omega) dLaw_641 ?_
  refine lw_callM hk (t := 0) (y := yX12_send) (As := [mI (xv xs (i + 1))]) (st := [mI a.1]) (by decide) mf_X12_send (inT8 171 rfl rfl) mv_X12_send (Nat.le_of_ble_eq_true rfl) hcs hsl rfl (Nat.le_of_ble_eq_true rfl) rfl dLaw_642 (met_M_send (kL K) (kD K) (kaC K) BM 53 (fun id h => kdM_lt h) gM cI_xv ec) (fun gM1 cM1 => ?_)
  exact gw_icmp_eq hk.1 cC1 cM1 dLaw_645 (fun _ => kk _ _ e2 gC1 gM1) (fun h => absurd e1 h)
theorem lc_round {K : zK} {BM b L : Nat} {xs : Nat → Int32} {cs sl : Nat} {Q : State → Prop} {mC mM : zM} {i : Int} (hk : zLw K BM) (hcs : cs ≤ 600000) (hsl : sl ≤ 7302250) (hX : va_X b L xs (kS K) (kS K).heap) (hbl : b < (kS K).heap.size) (hL : L ≤ 3072) (i0 : 0 ≤ i) (i1 : i + 6 ≤ (L : Int)) (hR : Rel mC mM) (gC : zG kdC mC) (gM : zG kdM mM) (kk : ∀ mC2 mM2 : zM, Rel mC2 mM2 → zG kdC mC2 → zG kdM mM2 → GoW K (LH K BM mC2 mM2) cs sl Q (lvL K BM b i) [] 1055) : GoW K (LH K BM mC mM) cs sl Q (lvL K BM b i) [] 650 := by
  obtain ⟨a, ea, c, ec, e1, e2⟩ := @rs_round mC mM (xv xs (i + 1)) (xv xs (i + 2)) hR
  refine gw_aload_n hk.1 1 rfl dLaw_650 ?_
  refine gw_aload_n hk.1 0 rfl dLaw_651 ?_
  refine gw_iload_n hk.1 3 rfl dLaw_652 ?_
  refine gw_iconst hk.1 (v := 1) rfl dLaw_653 ?_
  refine gw_iadd hk.1 dLaw_654 ?_
  refine gw_top (wI_ok (x := i + 1) (by omega) (by omega)) ?_
  refine lw_sld hk hX hbl hL (by omega) (by omega) dLaw_655 ?_
  refine gw_aload_n hk.1 0 rfl dLaw_656 ?_
  refine gw_iload_n hk.1 3 rfl dLaw_657 ?_
  refine gw_iconst hk.1 (v := 2) rfl dLaw_658 ?_
  refine gw_iadd hk.1 dLaw_659 ?_
  refine gw_top (wI_ok (x := i + 2) (by omega) (by omega)) ?_
  refine lw_sld hk hX hbl hL (by omega) (by omega) dLaw_660 ?_
  refine lw_callC hk (t := 0) (y := yX11_round) (As := [mI (xv xs (i + 1)), mI (xv xs (i + 2))]) (st := []) (by decide) mf_X11_round (inT5 73 rfl rfl) mv_X11_round (Nat.le_of_ble_eq_true rfl) hcs hsl rfl (Nat.le_of_ble_eq_true rfl) rfl dLaw_661 (met_C_round (kL K) (kD K) (kaC K) (kB K) 249 (fun id h => kdC_lt h) gC cI_xv cI_xv ea) (fun gC1 cC1 => ?_)
  refine gw_aload_n hk.1 2 rfl dLaw_664 ?_
  refine gw_aload_n hk.1 0 rfl dLaw_665 ?_
  refine gw_iload_n hk.1 3 rfl dLaw_666 ?_
  refine gw_iconst hk.1 (v := 1) rfl dLaw_667 ?_
  refine gw_iadd hk.1 dLaw_668 ?_
  refine gw_top (wI_ok (x := i + 1) (by omega) (by omega)) ?_
  refine lw_sld hk hX hbl hL (by omega) (by omega) dLaw_669 ?_
  refine gw_aload_n hk.1 0 rfl dLaw_670 ?_
  refine gw_iload_n hk.1 3 rfl dLaw_671 ?_
  refine gw_iconst hk.1 (v := 2) rfl dLaw_672 ?_
  refine gw_iadd hk.1 dLaw_673 ?_
  refine gw_top (wI_ok (x := i + 2) (by omega) (by omega)) ?_
  refine lw_sld hk hX hbl hL (by omega) (by omega) dLaw_674 ?_
  refine lw_callM hk (t := 0) (y := yX12_round) (As := [mI (xv xs (i + 1)), mI (xv xs (i + 2))]) (st := [mI a.1]) (by decide) mf_X12_round (inT8 176 rfl rfl) mv_X12_round (Nat.le_of_ble_eq_true rfl) hcs hsl rfl (Nat.le_of_ble_eq_true rfl) rfl dLaw_675 (met_M_round (kL K) (kD K) (kaC K) BM 53 (fun id h => kdM_lt h) gM cI_xv cI_xv ec) (fun gM1 cM1 => ?_)
  exact gw_icmp_eq hk.1 cC1 cM1 dLaw_678 (fun _ => kk _ _ e2 gC1 gM1) (fun h => absurd e1 h)
theorem lc_walk {K : zK} {BM b L : Nat} {xs : Nat → Int32} {cs sl : Nat} {Q : State → Prop} {mC mM : zM} {i : Int} (hk : zLw K BM) (hcs : cs ≤ 600000) (hsl : sl ≤ 7302250) (hX : va_X b L xs (kS K) (kS K).heap) (hbl : b < (kS K).heap.size) (hL : L ≤ 3072) (i0 : 0 ≤ i) (i1 : i + 6 ≤ (L : Int)) (hR : Rel mC mM) (gC : zG kdC mC) (gM : zG kdM mM) (kk : ∀ mC2 mM2 : zM, Rel mC2 mM2 → zG kdC mC2 → zG kdM mM2 → GoW K (LH K BM mC2 mM2) cs sl Q (lvL K BM b i) [] 1055) : GoW K (LH K BM mC mM) cs sl Q (lvL K BM b i) [] 683 := by
  obtain ⟨a, ea, c, ec, e1, e2⟩ := @rs_walk mC mM (xv xs (i + 1)) (xv xs (i + 2)) hR
  refine gw_aload_n hk.1 1 rfl dLaw_683 ?_
  refine gw_aload_n hk.1 0 rfl dLaw_684 ?_
  refine gw_iload_n hk.1 3 rfl dLaw_685 ?_
  refine gw_iconst hk.1 (v := 1) rfl dLaw_686 ?_
  refine gw_iadd hk.1 dLaw_687 ?_
  refine gw_top (wI_ok (x := i + 1) (by omega) (by omega)) ?_
  refine lw_sld hk hX hbl hL (by omega) (by omega) dLaw_688 ?_
  refine gw_aload_n hk.1 0 rfl dLaw_689 ?_
  refine gw_iload_n hk.1 3 rfl dLaw_690 ?_
  refine gw_iconst hk.1 (v := 2) rfl dLaw_691 ?_
  refine gw_iadd hk.1 dLaw_692 ?_
  refine gw_top (wI_ok (x := i + 2) (by omega) (by omega)) ?_
  refine lw_sld hk hX hbl hL (by omega) (by omega) dLaw_693 ?_
  refine lw_callC hk (t := 0) (y := yX11_walk) (As := [mI (xv xs (i + 1)), mI (xv xs (i + 2))]) (st := []) (by decide) mf_X11_walk (inT5 104 rfl rfl) mv_X11_walk (Nat.le_of_ble_eq_true rfl) hcs hsl rfl (Nat.le_of_ble_eq_true rfl) rfl dLaw_694 (met_C_walk (kL K) (kD K) (kaC K) (kB K) 249 (fun id h => kdC_lt h) gC cI_xv cI_xv ea) (fun gC1 cC1 => ?_)
  refine gw_aload_n hk.1 2 rfl dLaw_697 ?_
  refine gw_aload_n hk.1 0 rfl dLaw_698 ?_
  refine gw_iload_n hk.1 3 rfl dLaw_699 ?_
  refine gw_iconst hk.1 (v := 1) rfl dLaw_700 ?_
  refine gw_iadd hk.1 dLaw_701 ?_
  refine gw_top (wI_ok (x := i + 1) (by omega) (by omega)) ?_
  refine lw_sld hk hX hbl hL (by omega) (by omega) dLaw_702 ?_
  refine gw_aload_n hk.1 0 rfl dLaw_703 ?_
  refine gw_iload_n hk.1 3 rfl dLaw_704 ?_
  refine gw_iconst hk.1 (v := 2) rfl dLaw_705 ?_
  refine gw_iadd hk.1 dLaw_706 ?_
  refine gw_top (wI_ok (x := i + 2) (by omega) (by omega)) ?_
  refine lw_sld hk hX hbl hL (by omega) (by omega) dLaw_707 ?_
  refine lw_callM hk (t := 0) (y := yX12_walk) (As := [mI (xv xs (i + 1)), mI (xv xs (i + 2))]) (st := [mI a.1]) (by decide) mf_X12_walk (inT8 188 rfl rfl) mv_X12_walk (Nat.le_of_ble_eq_true rfl) hcs hsl rfl (Nat.le_of_ble_eq_true rfl) rfl dLaw_708 (met_M_walk (kL K) (kD K) (kaC K) BM 53 (fun id h => kdM_lt h) gM cI_xv cI_xv ec) (fun gM1 cM1 => ?_)
  exact gw_icmp_eq hk.1 cC1 cM1 dLaw_711 (fun _ => kk _ _ e2 gC1 gM1) (fun h => absurd e1 h)
theorem lc_torn {K : zK} {BM b L : Nat} {xs : Nat → Int32} {cs sl : Nat} {Q : State → Prop} {mC mM : zM} {i : Int} (hk : zLw K BM) (hcs : cs ≤ 600000) (hsl : sl ≤ 7302250) (hX : va_X b L xs (kS K) (kS K).heap) (hbl : b < (kS K).heap.size) (hL : L ≤ 3072) (i0 : 0 ≤ i) (i1 : i + 6 ≤ (L : Int)) (hR : Rel mC mM) (gC : zG kdC mC) (gM : zG kdM mM) (kk : ∀ mC2 mM2 : zM, Rel mC2 mM2 → zG kdC mC2 → zG kdM mM2 → GoW K (LH K BM mC2 mM2) cs sl Q (lvL K BM b i) [] 1055) : GoW K (LH K BM mC mM) cs sl Q (lvL K BM b i) [] 716 := by
  obtain ⟨a, ea, c, ec, e1, e2⟩ := @rs_torn mC mM  hR
  refine gw_aload_n hk.1 1 rfl dLaw_716 ?_
  refine lw_callC hk (t := 0) (y := yX11_torn) (As := []) (st := []) (by decide) mf_X11_torn (inT5 121 rfl rfl) mv_X11_torn (Nat.le_of_ble_eq_true rfl) hcs hsl rfl (Nat.le_of_ble_eq_true rfl) rfl dLaw_717 (met_C_torn (kL K) (kD K) (kaC K) (kB K) 249 (fun id h => kdC_lt h) gC  ea) (fun gC1 cC1 => ?_)
  refine gw_aload_n hk.1 2 rfl dLaw_720 ?_
  refine lw_callM hk (t := 0) (y := yX12_torn) (As := []) (st := [mI a.1]) (by decide) mf_X12_torn (inT8 192 rfl rfl) mv_X12_torn (Nat.le_of_ble_eq_true rfl) hcs hsl rfl (Nat.le_of_ble_eq_true rfl) rfl dLaw_721 (met_M_torn (kL K) (kD K) (kaC K) BM 53 (fun id h => kdM_lt h) gM  ec) (fun gM1 cM1 => ?_)
  exact gw_icmp_eq hk.1 cC1 cM1 dLaw_724 (fun _ => kk _ _ e2 gC1 gM1) (fun h => absurd e1 h)
theorem lc_hours {K : zK} {BM b L : Nat} {xs : Nat → Int32} {cs sl : Nat} {Q : State → Prop} {mC mM : zM} {i : Int} (hk : zLw K BM) (hcs : cs ≤ 600000) (hsl : sl ≤ 7302250) (hX : va_X b L xs (kS K) (kS K).heap) (hbl : b < (kS K).heap.size) (hL : L ≤ 3072) (i0 : 0 ≤ i) (i1 : i + 6 ≤ (L : Int)) (hR : Rel mC mM) (gC : zG kdC mC) (gM : zG kdM mM) (kk : ∀ mC2 mM2 : zM, Rel mC2 mM2 → zG kdC mC2 → zG kdM mM2 → GoW K (LH K BM mC2 mM2) cs sl Q (lvL K BM b i) [] 1055) : GoW K (LH K BM mC mM) cs sl Q (lvL K BM b i) [] 729 := by
  obtain ⟨a, ea, c, ec, e1, e2⟩ := @rs_hours mC mM (xv xs (i + 1)) hR
  refine gw_aload_n hk.1 1 rfl dLaw_729 ?_
  refine gw_aload_n hk.1 0 rfl dLaw_730 ?_
  refine gw_iload_n hk.1 3 rfl dLaw_731 ?_
  refine gw_iconst hk.1 (v := 1) rfl dLaw_732 ?_
  refine gw_iadd hk.1 dLaw_733 ?_
  refine gw_top (wI_ok (x := i + 1) (by omega) (by omega)) ?_
  refine lw_sld hk hX hbl hL (by omega) (by omega) dLaw_734 ?_
  refine lw_callC hk (t := 0) (y := yX11_hours) (As := [mI (xv xs (i + 1))]) (st := []) (by decide) mf_X11_hours (inT5 133 rfl rfl) mv_X11_hours (Nat.le_of_ble_eq_true rfl) hcs hsl rfl (Nat.le_of_ble_eq_true rfl) rfl dLaw_735 (met_C_hours (kL K) (kD K) (kaC K) (kB K) 249 (fun id h => kdC_lt h) gC cI_xv ea) (fun gC1 cC1 => ?_)
  refine gw_aload_n hk.1 2 rfl dLaw_738 ?_
  refine gw_aload_n hk.1 0 rfl dLaw_739 ?_
  refine gw_iload_n hk.1 3 rfl dLaw_740 ?_
  refine gw_iconst hk.1 (v := 1) rfl dLaw_741 ?_
  refine gw_iadd hk.1 dLaw_742 ?_
  refine gw_top (wI_ok (x := i + 1) (by omega) (by omega)) ?_
  refine lw_sld hk hX hbl hL (by omega) (by omega) dLaw_743 ?_
  refine lw_callM hk (t := 0) (y := yX12_hours) (As := [mI (xv xs (i + 1))]) (st := [mI a.1]) (by decide) mf_X12_hours (inT8 196 rfl rfl) mv_X12_hours (Nat.le_of_ble_eq_true rfl) hcs hsl rfl (Nat.le_of_ble_eq_true rfl) rfl dLaw_744 (met_M_hours (kL K) (kD K) (kaC K) BM 53 (fun id h => kdM_lt h) gM cI_xv ec) (fun gM1 cM1 => ?_)
  exact gw_icmp_eq hk.1 cC1 cM1 dLaw_747 (fun _ => kk _ _ e2 gC1 gM1) (fun h => absurd e1 h)
theorem lc_chance {K : zK} {BM b L : Nat} {xs : Nat → Int32} {cs sl : Nat} {Q : State → Prop} {mC mM : zM} {i : Int} (hk : zLw K BM) (hcs : cs ≤ 600000) (hsl : sl ≤ 7302250) (hX : va_X b L xs (kS K) (kS K).heap) (hbl : b < (kS K).heap.size) (hL : L ≤ 3072) (i0 : 0 ≤ i) (i1 : i + 6 ≤ (L : Int)) (hR : Rel mC mM) (gC : zG kdC mC) (gM : zG kdM mM) (kk : ∀ mC2 mM2 : zM, Rel mC2 mM2 → zG kdC mC2 → zG kdM mM2 → GoW K (LH K BM mC2 mM2) cs sl Q (lvL K BM b i) [] 1055) : GoW K (LH K BM mC mM) cs sl Q (lvL K BM b i) [] 752 := by
  obtain ⟨a, ea, c, ec, e1, e2⟩ := @rs_chance mC mM (xv xs (i + 1)) hR
  refine gw_aload_n hk.1 1 rfl dLaw_752 ?_
  refine gw_aload_n hk.1 0 rfl dLaw_753 ?_
  refine gw_iload_n hk.1 3 rfl dLaw_754 ?_
  refine gw_iconst hk.1 (v := 1) rfl dLaw_755 ?_
  refine gw_iadd hk.1 dLaw_756 ?_
  refine gw_top (wI_ok (x := i + 1) (by omega) (by omega)) ?_
  refine lw_sld hk hX hbl hL (by omega) (by omega) dLaw_757 ?_
  refine lw_callC hk (t := 0) (y := yX11_chance) (As := [mI (xv xs (i + 1))]) (st := []) (by decide) mf_X11_chance (inT5 145 rfl rfl) mv_X11_chance (Nat.le_of_ble_eq_true rfl) hcs hsl rfl (Nat.le_of_ble_eq_true rfl) rfl dLaw_758 (met_C_chance (kL K) (kD K) (kaC K) (kB K) 249 (fun id h => kdC_lt h) gC cI_xv ea) (fun gC1 cC1 => ?_)
  refine gw_aload_n hk.1 2 rfl dLaw_761 ?_
  refine gw_aload_n hk.1 0 rfl dLaw_762 ?_
  refine gw_iload_n hk.1 3 rfl dLaw_763 ?_
  refine gw_iconst hk.1 (v := 1) rfl dLaw_764 ?_
  refine gw_iadd hk.1 dLaw_765 ?_
  refine gw_top (wI_ok (x := i + 1) (by omega) (by omega)) ?_
  refine lw_sld hk hX hbl hL (by omega) (by omega) dLaw_766 ?_
  refine lw_callM hk (t := 0) (y := yX12_chance) (As := [mI (xv xs (i + 1))]) (st := [mI a.1]) (by decide) mf_X12_chance (inT8 204 rfl rfl) mv_X12_chance (Nat.le_of_ble_eq_true rfl) hcs hsl rfl (Nat.le_of_ble_eq_true rfl) rfl dLaw_767 (met_M_chance (kL K) (kD K) (kaC K) BM 53 (fun id h => kdM_lt h) gM cI_xv ec) (fun gM1 cM1 => ?_)
  exact gw_icmp_eq hk.1 cC1 cM1 dLaw_770 (fun _ => kk _ _ e2 gC1 gM1) (fun h => absurd e1 h)
theorem lc_change {K : zK} {BM b L : Nat} {xs : Nat → Int32} {cs sl : Nat} {Q : State → Prop} {mC mM : zM} {i : Int} (hk : zLw K BM) (hcs : cs ≤ 600000) (hsl : sl ≤ 7302250) (hX : va_X b L xs (kS K) (kS K).heap) (hbl : b < (kS K).heap.size) (hL : L ≤ 3072) (i0 : 0 ≤ i) (i1 : i + 6 ≤ (L : Int)) (hR : Rel mC mM) (gC : zG kdC mC) (gM : zG kdM mM) (kk : ∀ mC2 mM2 : zM, Rel mC2 mM2 → zG kdC mC2 → zG kdM mM2 → GoW K (LH K BM mC2 mM2) cs sl Q (lvL K BM b i) [] 1055) : GoW K (LH K BM mC mM) cs sl Q (lvL K BM b i) [] 775 := by
  obtain ⟨a, ea, c, ec, e1, e2⟩ := @rs_change mC mM (xv xs (i + 1)) (xv xs (i + 2)) (xv xs (i + 3)) (xv xs (i + 4)) hR
  refine gw_aload_n hk.1 1 rfl dLaw_775 ?_
  refine gw_aload_n hk.1 0 rfl dLaw_776 ?_
  refine gw_iload_n hk.1 3 rfl dLaw_777 ?_
  refine gw_iconst hk.1 (v := 1) rfl dLaw_778 ?_
  refine gw_iadd hk.1 dLaw_779 ?_
  refine gw_top (wI_ok (x := i + 1) (by omega) (by omega)) ?_
  refine lw_sld hk hX hbl hL (by omega) (by omega) dLaw_780 ?_
  refine gw_aload_n hk.1 0 rfl dLaw_781 ?_
  refine gw_iload_n hk.1 3 rfl dLaw_782 ?_
  refine gw_iconst hk.1 (v := 2) rfl dLaw_783 ?_
  refine gw_iadd hk.1 dLaw_784 ?_
  refine gw_top (wI_ok (x := i + 2) (by omega) (by omega)) ?_
  refine lw_sld hk hX hbl hL (by omega) (by omega) dLaw_785 ?_
  refine gw_aload_n hk.1 0 rfl dLaw_786 ?_
  refine gw_iload_n hk.1 3 rfl dLaw_787 ?_
  refine gw_iconst hk.1 (v := 3) rfl dLaw_788 ?_
  refine gw_iadd hk.1 dLaw_789 ?_
  refine gw_top (wI_ok (x := i + 3) (by omega) (by omega)) ?_
  refine lw_sld hk hX hbl hL (by omega) (by omega) dLaw_790 ?_
  refine gw_aload_n hk.1 0 rfl dLaw_791 ?_
  refine gw_iload_n hk.1 3 rfl dLaw_792 ?_
  refine gw_iconst hk.1 (v := 4) rfl dLaw_793 ?_
  refine gw_iadd hk.1 dLaw_794 ?_
  refine gw_top (wI_ok (x := i + 4) (by omega) (by omega)) ?_
  refine lw_sld hk hX hbl hL (by omega) (by omega) dLaw_795 ?_
  refine lw_callC hk (t := 4) (y := yX11_change) (As := [mI (xv xs (i + 1)), mI (xv xs (i + 2)), mI (xv xs (i + 3)), mI (xv xs (i + 4))]) (st := []) (by decide) mf_X11_change (inT5 155 rfl rfl) mv_X11_change (Nat.le_of_ble_eq_true rfl) hcs hsl rfl (Nat.le_of_ble_eq_true rfl) rfl dLaw_796 (met_C_change (kL K) (kD K) (kaC K) (kB K) 249 (fun id h => kdC_lt h) gC cI_xv cI_xv cI_xv cI_xv ea) (fun gC1 cC1 => ?_)
  refine gw_aload_n hk.1 2 rfl dLaw_799 ?_
  refine gw_aload_n hk.1 0 rfl dLaw_800 ?_
  refine gw_iload_n hk.1 3 rfl dLaw_801 ?_
  refine gw_iconst hk.1 (v := 1) rfl dLaw_802 ?_
  refine gw_iadd hk.1 dLaw_803 ?_
  refine gw_top (wI_ok (x := i + 1) (by omega) (by omega)) ?_
  refine lw_sld hk hX hbl hL (by omega) (by omega) dLaw_804 ?_
  refine gw_aload_n hk.1 0 rfl dLaw_805 ?_
  refine gw_iload_n hk.1 3 rfl dLaw_806 ?_
  refine gw_iconst hk.1 (v := 2) rfl dLaw_807 ?_
  refine gw_iadd hk.1 dLaw_808 ?_
  refine gw_top (wI_ok (x := i + 2) (by omega) (by omega)) ?_
  refine lw_sld hk hX hbl hL (by omega) (by omega) dLaw_809 ?_
  refine gw_aload_n hk.1 0 rfl dLaw_810 ?_
  refine gw_iload_n hk.1 3 rfl dLaw_811 ?_
  refine gw_iconst hk.1 (v := 3) rfl dLaw_812 ?_
  refine gw_iadd hk.1 dLaw_813 ?_
  refine gw_top (wI_ok (x := i + 3) (by omega) (by omega)) ?_
  refine lw_sld hk hX hbl hL (by omega) (by omega) dLaw_814 ?_
  refine gw_aload_n hk.1 0 rfl dLaw_815 ?_
  refine gw_iload_n hk.1 3 rfl dLaw_816 ?_
  refine gw_iconst hk.1 (v := 4) rfl dLaw_817 ?_
  refine gw_iadd hk.1 dLaw_818 ?_
  refine gw_top (wI_ok (x := i + 4) (by omega) (by omega)) ?_
  refine lw_sld hk hX hbl hL (by omega) (by omega) dLaw_819 ?_
  refine lw_callM hk (t := 4) (y := yX12_change) (As := [mI (xv xs (i + 1)), mI (xv xs (i + 2)), mI (xv xs (i + 3)), mI (xv xs (i + 4))]) (st := [mI a.1]) (by decide) mf_X12_change (inT8 216 rfl rfl) mv_X12_change (Nat.le_of_ble_eq_true rfl) hcs hsl rfl (Nat.le_of_ble_eq_true rfl) rfl dLaw_820 (met_M_change (kL K) (kD K) (kaC K) BM 53 (fun id h => kdM_lt h) gM cI_xv cI_xv cI_xv cI_xv ec) (fun gM1 cM1 => ?_)
  exact gw_icmp_eq hk.1 cC1 cM1 dLaw_823 (fun _ => kk _ _ e2 gC1 gM1) (fun h => absurd e1 h)
theorem lc_train {K : zK} {BM b L : Nat} {xs : Nat → Int32} {cs sl : Nat} {Q : State → Prop} {mC mM : zM} {i : Int} (hk : zLw K BM) (hcs : cs ≤ 600000) (hsl : sl ≤ 7302250) (hX : va_X b L xs (kS K) (kS K).heap) (hbl : b < (kS K).heap.size) (hL : L ≤ 3072) (i0 : 0 ≤ i) (i1 : i + 6 ≤ (L : Int)) (hR : Rel mC mM) (gC : zG kdC mC) (gM : zG kdM mM) (kk : ∀ mC2 mM2 : zM, Rel mC2 mM2 → zG kdC mC2 → zG kdM mM2 → GoW K (LH K BM mC2 mM2) cs sl Q (lvL K BM b i) [] 1055) : GoW K (LH K BM mC mM) cs sl Q (lvL K BM b i) [] 828 := by
  obtain ⟨a, ea, c, ec, e1, e2⟩ := @rs_train mC mM (xv xs (i + 1)) (xv xs (i + 2)) (xv xs (i + 3)) (xv xs (i + 4)) hR
  refine gw_aload_n hk.1 1 rfl dLaw_828 ?_
  refine gw_aload_n hk.1 0 rfl dLaw_829 ?_
  refine gw_iload_n hk.1 3 rfl dLaw_830 ?_
  refine gw_iconst hk.1 (v := 1) rfl dLaw_831 ?_
  refine gw_iadd hk.1 dLaw_832 ?_
  refine gw_top (wI_ok (x := i + 1) (by omega) (by omega)) ?_
  refine lw_sld hk hX hbl hL (by omega) (by omega) dLaw_833 ?_
  refine gw_aload_n hk.1 0 rfl dLaw_834 ?_
  refine gw_iload_n hk.1 3 rfl dLaw_835 ?_
  refine gw_iconst hk.1 (v := 2) rfl dLaw_836 ?_
  refine gw_iadd hk.1 dLaw_837 ?_
  refine gw_top (wI_ok (x := i + 2) (by omega) (by omega)) ?_
  refine lw_sld hk hX hbl hL (by omega) (by omega) dLaw_838 ?_
  refine gw_aload_n hk.1 0 rfl dLaw_839 ?_
  refine gw_iload_n hk.1 3 rfl dLaw_840 ?_
  refine gw_iconst hk.1 (v := 3) rfl dLaw_841 ?_
  refine gw_iadd hk.1 dLaw_842 ?_
  refine gw_top (wI_ok (x := i + 3) (by omega) (by omega)) ?_
  refine lw_sld hk hX hbl hL (by omega) (by omega) dLaw_843 ?_
  refine gw_aload_n hk.1 0 rfl dLaw_844 ?_
  refine gw_iload_n hk.1 3 rfl dLaw_845 ?_
  refine gw_iconst hk.1 (v := 4) rfl dLaw_846 ?_
  refine gw_iadd hk.1 dLaw_847 ?_
  refine gw_top (wI_ok (x := i + 4) (by omega) (by omega)) ?_
  refine lw_sld hk hX hbl hL (by omega) (by omega) dLaw_848 ?_
  refine lw_callC hk (t := 4) (y := yX11_train) (As := [mI (xv xs (i + 1)), mI (xv xs (i + 2)), mI (xv xs (i + 3)), mI (xv xs (i + 4))]) (st := []) (by decide) mf_X11_train (inT5 166 rfl rfl) mv_X11_train (Nat.le_of_ble_eq_true rfl) hcs hsl rfl (Nat.le_of_ble_eq_true rfl) rfl dLaw_849 (met_C_train (kL K) (kD K) (kaC K) (kB K) 249 (fun id h => kdC_lt h) gC cI_xv cI_xv cI_xv cI_xv ea) (fun gC1 cC1 => ?_)
  refine gw_aload_n hk.1 2 rfl dLaw_852 ?_
  refine gw_aload_n hk.1 0 rfl dLaw_853 ?_
  refine gw_iload_n hk.1 3 rfl dLaw_854 ?_
  refine gw_iconst hk.1 (v := 1) rfl dLaw_855 ?_
  refine gw_iadd hk.1 dLaw_856 ?_
  refine gw_top (wI_ok (x := i + 1) (by omega) (by omega)) ?_
  refine lw_sld hk hX hbl hL (by omega) (by omega) dLaw_857 ?_
  refine gw_aload_n hk.1 0 rfl dLaw_858 ?_
  refine gw_iload_n hk.1 3 rfl dLaw_859 ?_
  refine gw_iconst hk.1 (v := 2) rfl dLaw_860 ?_
  refine gw_iadd hk.1 dLaw_861 ?_
  refine gw_top (wI_ok (x := i + 2) (by omega) (by omega)) ?_
  refine lw_sld hk hX hbl hL (by omega) (by omega) dLaw_862 ?_
  refine gw_aload_n hk.1 0 rfl dLaw_863 ?_
  refine gw_iload_n hk.1 3 rfl dLaw_864 ?_
  refine gw_iconst hk.1 (v := 3) rfl dLaw_865 ?_
  refine gw_iadd hk.1 dLaw_866 ?_
  refine gw_top (wI_ok (x := i + 3) (by omega) (by omega)) ?_
  refine lw_sld hk hX hbl hL (by omega) (by omega) dLaw_867 ?_
  refine gw_aload_n hk.1 0 rfl dLaw_868 ?_
  refine gw_iload_n hk.1 3 rfl dLaw_869 ?_
  refine gw_iconst hk.1 (v := 4) rfl dLaw_870 ?_
  refine gw_iadd hk.1 dLaw_871 ?_
  refine gw_top (wI_ok (x := i + 4) (by omega) (by omega)) ?_
  refine lw_sld hk hX hbl hL (by omega) (by omega) dLaw_872 ?_
  refine lw_callM hk (t := 4) (y := yX12_train) (As := [mI (xv xs (i + 1)), mI (xv xs (i + 2)), mI (xv xs (i + 3)), mI (xv xs (i + 4))]) (st := [mI a.1]) (by decide) mf_X12_train (inT8 224 rfl rfl) mv_X12_train (Nat.le_of_ble_eq_true rfl) hcs hsl rfl (Nat.le_of_ble_eq_true rfl) rfl dLaw_873 (met_M_train (kL K) (kD K) (kaC K) BM 53 (fun id h => kdM_lt h) gM cI_xv cI_xv cI_xv cI_xv ec) (fun gM1 cM1 => ?_)
  exact gw_icmp_eq hk.1 cC1 cM1 dLaw_876 (fun _ => kk _ _ e2 gC1 gM1) (fun h => absurd e1 h)
theorem lc_swap {K : zK} {BM b L : Nat} {xs : Nat → Int32} {cs sl : Nat} {Q : State → Prop} {mC mM : zM} {i : Int} (hk : zLw K BM) (hcs : cs ≤ 600000) (hsl : sl ≤ 7302250) (hX : va_X b L xs (kS K) (kS K).heap) (hbl : b < (kS K).heap.size) (hL : L ≤ 3072) (i0 : 0 ≤ i) (i1 : i + 6 ≤ (L : Int)) (hR : Rel mC mM) (gC : zG kdC mC) (gM : zG kdM mM) (kk : ∀ mC2 mM2 : zM, Rel mC2 mM2 → zG kdC mC2 → zG kdM mM2 → GoW K (LH K BM mC2 mM2) cs sl Q (lvL K BM b i) [] 1055) : GoW K (LH K BM mC mM) cs sl Q (lvL K BM b i) [] 881 := by
  obtain ⟨a, ea, c, ec, e1, e2⟩ := @rs_swap mC mM (xv xs (i + 1)) (xv xs (i + 2)) hR
  refine gw_aload_n hk.1 1 rfl dLaw_881 ?_
  refine gw_aload_n hk.1 0 rfl dLaw_882 ?_
  refine gw_iload_n hk.1 3 rfl dLaw_883 ?_
  refine gw_iconst hk.1 (v := 1) rfl dLaw_884 ?_
  refine gw_iadd hk.1 dLaw_885 ?_
  refine gw_top (wI_ok (x := i + 1) (by omega) (by omega)) ?_
  refine lw_sld hk hX hbl hL (by omega) (by omega) dLaw_886 ?_
  refine gw_aload_n hk.1 0 rfl dLaw_887 ?_
  refine gw_iload_n hk.1 3 rfl dLaw_888 ?_
  refine gw_iconst hk.1 (v := 2) rfl dLaw_889 ?_
  refine gw_iadd hk.1 dLaw_890 ?_
  refine gw_top (wI_ok (x := i + 2) (by omega) (by omega)) ?_
  refine lw_sld hk hX hbl hL (by omega) (by omega) dLaw_891 ?_
  refine lw_callC hk (t := 4) (y := yX11_swap) (As := [mI (xv xs (i + 1)), mI (xv xs (i + 2))]) (st := []) (by decide) mf_X11_swap (inT5 170 rfl rfl) mv_X11_swap (Nat.le_of_ble_eq_true rfl) hcs hsl rfl (Nat.le_of_ble_eq_true rfl) rfl dLaw_892 (met_C_swap (kL K) (kD K) (kaC K) (kB K) 249 (fun id h => kdC_lt h) gC cI_xv cI_xv ea) (fun gC1 cC1 => ?_)
  refine gw_aload_n hk.1 2 rfl dLaw_895 ?_
  refine gw_aload_n hk.1 0 rfl dLaw_896 ?_
  refine gw_iload_n hk.1 3 rfl dLaw_897 ?_
  refine gw_iconst hk.1 (v := 1) rfl dLaw_898 ?_
  refine gw_iadd hk.1 dLaw_899 ?_
  refine gw_top (wI_ok (x := i + 1) (by omega) (by omega)) ?_
  refine lw_sld hk hX hbl hL (by omega) (by omega) dLaw_900 ?_
  refine gw_aload_n hk.1 0 rfl dLaw_901 ?_
  refine gw_iload_n hk.1 3 rfl dLaw_902 ?_
  refine gw_iconst hk.1 (v := 2) rfl dLaw_903 ?_
  refine gw_iadd hk.1 dLaw_904 ?_
  refine gw_top (wI_ok (x := i + 2) (by omega) (by omega)) ?_
  refine lw_sld hk hX hbl hL (by omega) (by omega) dLaw_905 ?_
  refine lw_callM hk (t := 4) (y := yX12_swap) (As := [mI (xv xs (i + 1)), mI (xv xs (i + 2))]) (st := [mI a.1]) (by decide) mf_X12_swap (inT8 228 rfl rfl) mv_X12_swap (Nat.le_of_ble_eq_true rfl) hcs hsl rfl (Nat.le_of_ble_eq_true rfl) rfl dLaw_906 (met_M_swap (kL K) (kD K) (kaC K) BM 53 (fun id h => kdM_lt h) gM cI_xv cI_xv ec) (fun gM1 cM1 => ?_)
  exact gw_icmp_eq hk.1 cC1 cM1 dLaw_909 (fun _ => kk _ _ e2 gC1 gM1) (fun h => absurd e1 h)
theorem lc_undo {K : zK} {BM b L : Nat} {xs : Nat → Int32} {cs sl : Nat} {Q : State → Prop} {mC mM : zM} {i : Int} (hk : zLw K BM) (hcs : cs ≤ 600000) (hsl : sl ≤ 7302250) (hX : va_X b L xs (kS K) (kS K).heap) (hbl : b < (kS K).heap.size) (hL : L ≤ 3072) (i0 : 0 ≤ i) (i1 : i + 6 ≤ (L : Int)) (hR : Rel mC mM) (gC : zG kdC mC) (gM : zG kdM mM) (kk : ∀ mC2 mM2 : zM, Rel mC2 mM2 → zG kdC mC2 → zG kdM mM2 → GoW K (LH K BM mC2 mM2) cs sl Q (lvL K BM b i) [] 1055) : GoW K (LH K BM mC mM) cs sl Q (lvL K BM b i) [] 914 := by
  obtain ⟨a, ea, c, ec, e1, e2⟩ := @rs_undo mC mM  hR
  refine gw_aload_n hk.1 1 rfl dLaw_914 ?_
  refine lw_callC hk (t := 4) (y := yX11_undo) (As := []) (st := []) (by decide) mf_X11_undo (inT5 181 rfl rfl) mv_X11_undo (Nat.le_of_ble_eq_true rfl) hcs hsl rfl (Nat.le_of_ble_eq_true rfl) rfl dLaw_915 (met_C_undo (kL K) (kD K) (kaC K) (kB K) 249 (fun id h => kdC_lt h) gC  ea) (fun gC1 cC1 => ?_)
  refine gw_aload_n hk.1 2 rfl dLaw_918 ?_
  refine lw_callM hk (t := 4) (y := yX12_undo) (As := []) (st := [mI a.1]) (by decide) mf_X12_undo (inT7 228 rfl rfl) mv_X12_undo (Nat.le_of_ble_eq_true rfl) hcs hsl rfl (Nat.le_of_ble_eq_true rfl) rfl dLaw_919 (met_M_undo (kL K) (kD K) (kaC K) BM 53 (fun id h => kdM_lt h) gM  ec) (fun gM1 cM1 => ?_)
  exact gw_icmp_eq hk.1 cC1 cM1 dLaw_922 (fun _ => kk _ _ e2 gC1 gM1) (fun h => absurd e1 h)
theorem lc_seed {K : zK} {BM b L : Nat} {xs : Nat → Int32} {cs sl : Nat} {Q : State → Prop} {mC mM : zM} {i : Int} (hk : zLw K BM) (hcs : cs ≤ 600000) (hsl : sl ≤ 7302250) (hX : va_X b L xs (kS K) (kS K).heap) (hbl : b < (kS K).heap.size) (hL : L ≤ 3072) (i0 : 0 ≤ i) (i1 : i + 6 ≤ (L : Int)) (hR : Rel mC mM) (gC : zG kdC mC) (gM : zG kdM mM) (kk : ∀ mC2 mM2 : zM, Rel mC2 mM2 → zG kdC mC2 → zG kdM mM2 → GoW K (LH K BM mC2 mM2) cs sl Q (lvL K BM b i) [] 1055) : GoW K (LH K BM mC mM) cs sl Q (lvL K BM b i) [] 927 := by
  obtain ⟨a, ea, c, ec, e1, e2⟩ := @rs_seed mC mM (xv xs (i + 1)) hR cI_xv
  refine gw_aload_n hk.1 1 rfl dLaw_927 ?_
  refine gw_aload_n hk.1 0 rfl dLaw_928 ?_
  refine gw_iload_n hk.1 3 rfl dLaw_929 ?_
  refine gw_iconst hk.1 (v := 1) rfl dLaw_930 ?_
  refine gw_iadd hk.1 dLaw_931 ?_
  refine gw_top (wI_ok (x := i + 1) (by omega) (by omega)) ?_
  refine lw_sld hk hX hbl hL (by omega) (by omega) dLaw_932 ?_
  refine lw_callC hk (t := 4) (y := yX11_seed) (As := [mI (xv xs (i + 1))]) (st := []) (by decide) mf_X11_seed (inT5 185 rfl rfl) mv_X11_seed (Nat.le_of_ble_eq_true rfl) hcs hsl rfl (Nat.le_of_ble_eq_true rfl) rfl dLaw_933 (met_C_seed (kL K) (kD K) (kaC K) (kB K) 249 (fun id h => kdC_lt h) gC cI_xv ea) (fun gC1 cC1 => ?_)
  refine gw_aload_n hk.1 2 rfl dLaw_936 ?_
  refine gw_aload_n hk.1 0 rfl dLaw_937 ?_
  refine gw_iload_n hk.1 3 rfl dLaw_938 ?_
  refine gw_iconst hk.1 (v := 1) rfl dLaw_939 ?_
  refine gw_iadd hk.1 dLaw_940 ?_
  refine gw_top (wI_ok (x := i + 1) (by omega) (by omega)) ?_
  refine lw_sld hk hX hbl hL (by omega) (by omega) dLaw_941 ?_
  refine lw_callM hk (t := 4) (y := yX12_seed) (As := [mI (xv xs (i + 1))]) (st := [mI a.1]) (by decide) mf_X12_seed (inT8 232 rfl rfl) mv_X12_seed (Nat.le_of_ble_eq_true rfl) hcs hsl rfl (Nat.le_of_ble_eq_true rfl) rfl dLaw_942 (met_M_seed (kL K) (kD K) (kaC K) BM 53 (fun id h => kdM_lt h) gM cI_xv ec) (fun gM1 cM1 => ?_)
  exact gw_icmp_eq hk.1 cC1 cM1 dLaw_945 (fun _ => kk _ _ e2 gC1 gM1) (fun h => absurd e1 h)
theorem lc_kept {K : zK} {BM b L : Nat} {xs : Nat → Int32} {cs sl : Nat} {Q : State → Prop} {mC mM : zM} {i : Int} (hk : zLw K BM) (hcs : cs ≤ 600000) (hsl : sl ≤ 7302250) (hX : va_X b L xs (kS K) (kS K).heap) (hbl : b < (kS K).heap.size) (hL : L ≤ 3072) (i0 : 0 ≤ i) (i1 : i + 6 ≤ (L : Int)) (hR : Rel mC mM) (gC : zG kdC mC) (gM : zG kdM mM) (kk : ∀ mC2 mM2 : zM, Rel mC2 mM2 → zG kdC mC2 → zG kdM mM2 → GoW K (LH K BM mC2 mM2) cs sl Q (lvL K BM b i) [] 1055) : GoW K (LH K BM mC mM) cs sl Q (lvL K BM b i) [] 950 := by
  obtain ⟨a, ea, c, ec, e1⟩ := @rs_kept mC mM (xv xs (i + 1)) (xv xs (i + 2)) hR
  refine gw_aload_n hk.1 1 rfl dLaw_950 ?_
  refine gw_aload_n hk.1 0 rfl dLaw_951 ?_
  refine gw_iload_n hk.1 3 rfl dLaw_952 ?_
  refine gw_iconst hk.1 (v := 1) rfl dLaw_953 ?_
  refine gw_iadd hk.1 dLaw_954 ?_
  refine gw_top (wI_ok (x := i + 1) (by omega) (by omega)) ?_
  refine lw_sld hk hX hbl hL (by omega) (by omega) dLaw_955 ?_
  refine gw_aload_n hk.1 0 rfl dLaw_956 ?_
  refine gw_iload_n hk.1 3 rfl dLaw_957 ?_
  refine gw_iconst hk.1 (v := 2) rfl dLaw_958 ?_
  refine gw_iadd hk.1 dLaw_959 ?_
  refine gw_top (wI_ok (x := i + 2) (by omega) (by omega)) ?_
  refine lw_sld hk hX hbl hL (by omega) (by omega) dLaw_960 ?_
  refine lw_callC hk (t := 0) (y := yX11_kept) (As := [mI (xv xs (i + 1)), mI (xv xs (i + 2))]) (st := []) (by decide) mf_X11_kept (inT5 189 rfl rfl) mv_X11_kept (Nat.le_of_ble_eq_true rfl) hcs hsl rfl (Nat.le_of_ble_eq_true rfl) rfl dLaw_961 (met_C_kept (kL K) (kD K) (kaC K) (kB K) 249 (fun id h => kdC_lt h) gC cI_xv cI_xv ea) (fun gC1 cC1 => ?_)
  refine gw_aload_n hk.1 2 rfl dLaw_964 ?_
  refine gw_aload_n hk.1 0 rfl dLaw_965 ?_
  refine gw_iload_n hk.1 3 rfl dLaw_966 ?_
  refine gw_iconst hk.1 (v := 1) rfl dLaw_967 ?_
  refine gw_iadd hk.1 dLaw_968 ?_
  refine gw_top (wI_ok (x := i + 1) (by omega) (by omega)) ?_
  refine lw_sld hk hX hbl hL (by omega) (by omega) dLaw_969 ?_
  refine gw_aload_n hk.1 0 rfl dLaw_970 ?_
  refine gw_iload_n hk.1 3 rfl dLaw_971 ?_
  refine gw_iconst hk.1 (v := 2) rfl dLaw_972 ?_
  refine gw_iadd hk.1 dLaw_973 ?_
  refine gw_top (wI_ok (x := i + 2) (by omega) (by omega)) ?_
  refine lw_sld hk hX hbl hL (by omega) (by omega) dLaw_974 ?_
  refine lw_callM hk (t := 0) (y := yX12_kept) (As := [mI (xv xs (i + 1)), mI (xv xs (i + 2))]) (st := [mI a]) (by decide) mf_X12_kept (inT8 236 rfl rfl) mv_X12_kept (Nat.le_of_ble_eq_true rfl) hcs hsl rfl (Nat.le_of_ble_eq_true rfl) rfl dLaw_975 (met_M_kept (kL K) (kD K) (kaC K) BM 53 (fun id h => kdM_lt h) gM cI_xv cI_xv ec) (fun gM1 cM1 => ?_)
  exact gw_icmp_eq hk.1 cC1 cM1 dLaw_978 (fun _ => kk _ _ hR gC1 gM1) (fun h => absurd e1 h)
theorem lc_image {K : zK} {BM b L : Nat} {xs : Nat → Int32} {cs sl : Nat} {Q : State → Prop} {mC mM : zM} {i : Int} (hk : zLw K BM) (hcs : cs ≤ 600000) (hsl : sl ≤ 7302250) (hX : va_X b L xs (kS K) (kS K).heap) (hbl : b < (kS K).heap.size) (hL : L ≤ 3072) (i0 : 0 ≤ i) (i1 : i + 6 ≤ (L : Int)) (hR : Rel mC mM) (gC : zG kdC mC) (gM : zG kdM mM) (kk : ∀ mC2 mM2 : zM, Rel mC2 mM2 → zG kdC mC2 → zG kdM mM2 → GoW K (LH K BM mC2 mM2) cs sl Q (lvL K BM b i) [] 1055) : GoW K (LH K BM mC mM) cs sl Q (lvL K BM b i) [] 983 := by
  obtain ⟨a, ea, c, ec, e1, e2⟩ := @rs_image mC mM  hR
  refine gw_aload_n hk.1 1 rfl dLaw_983 ?_
  refine lw_callC hk (t := 0) (y := yX11_image) (As := []) (st := []) (by decide) mf_X11_image (inT5 197 rfl rfl) mv_X11_image (Nat.le_of_ble_eq_true rfl) hcs hsl rfl (Nat.le_of_ble_eq_true rfl) rfl dLaw_984 (met_C_image (kL K) (kD K) (kaC K) (kB K) 249 (fun id h => kdC_lt h) gC  ea) (fun gC1 cC1 => ?_)
  refine gw_aload_n hk.1 2 rfl dLaw_987 ?_
  refine lw_callM hk (t := 0) (y := yX12_image) (As := []) (st := [mI a.1]) (by decide) mf_X12_image (inT9 0 rfl rfl) mv_X12_image (Nat.le_of_ble_eq_true rfl) hcs hsl rfl (Nat.le_of_ble_eq_true rfl) rfl dLaw_988 (met_M_image (kL K) (kD K) (kaC K) BM 53 (fun id h => kdM_lt h) gM  ec) (fun gM1 cM1 => ?_)
  exact gw_icmp_eq hk.1 cC1 cM1 dLaw_991 (fun _ => kk _ _ e2 gC1 gM1) (fun h => absurd e1 h)
theorem lc_octet {K : zK} {BM b L : Nat} {xs : Nat → Int32} {cs sl : Nat} {Q : State → Prop} {mC mM : zM} {i : Int} (hk : zLw K BM) (hcs : cs ≤ 600000) (hsl : sl ≤ 7302250) (hX : va_X b L xs (kS K) (kS K).heap) (hbl : b < (kS K).heap.size) (hL : L ≤ 3072) (i0 : 0 ≤ i) (i1 : i + 6 ≤ (L : Int)) (hR : Rel mC mM) (gC : zG kdC mC) (gM : zG kdM mM) (kk : ∀ mC2 mM2 : zM, Rel mC2 mM2 → zG kdC mC2 → zG kdM mM2 → GoW K (LH K BM mC2 mM2) cs sl Q (lvL K BM b i) [] 1055) : GoW K (LH K BM mC mM) cs sl Q (lvL K BM b i) [] 996 := by
  obtain ⟨a, ea, c, ec, e1⟩ := @rs_octet mC mM (xv xs (i + 1)) hR
  refine gw_aload_n hk.1 1 rfl dLaw_996 ?_
  refine gw_aload_n hk.1 0 rfl dLaw_997 ?_
  refine gw_iload_n hk.1 3 rfl dLaw_998 ?_
  refine gw_iconst hk.1 (v := 1) rfl dLaw_999 ?_
  refine gw_iadd hk.1 dLaw_1000 ?_
  refine gw_top (wI_ok (x := i + 1) (by omega) (by omega)) ?_
  refine lw_sld hk hX hbl hL (by omega) (by omega) dLaw_1001 ?_
  refine lw_callC hk (t := 0) (y := yX11_octet) (As := [mI (xv xs (i + 1))]) (st := []) (by decide) mf_X11_octet (inT5 220 rfl rfl) mv_X11_octet (Nat.le_of_ble_eq_true rfl) hcs hsl rfl (Nat.le_of_ble_eq_true rfl) rfl dLaw_1002 (met_C_octet (kL K) (kD K) (kaC K) (kB K) 249 (fun id h => kdC_lt h) gC cI_xv ea) (fun gC1 cC1 => ?_)
  refine gw_aload_n hk.1 2 rfl dLaw_1005 ?_
  refine gw_aload_n hk.1 0 rfl dLaw_1006 ?_
  refine gw_iload_n hk.1 3 rfl dLaw_1007 ?_
  refine gw_iconst hk.1 (v := 1) rfl dLaw_1008 ?_
  refine gw_iadd hk.1 dLaw_1009 ?_
  refine gw_top (wI_ok (x := i + 1) (by omega) (by omega)) ?_
  refine lw_sld hk hX hbl hL (by omega) (by omega) dLaw_1010 ?_
  refine lw_callM hk (t := 0) (y := yX12_octet) (As := [mI (xv xs (i + 1))]) (st := [mI a]) (by decide) mf_X12_octet (inT9 12 rfl rfl) mv_X12_octet (Nat.le_of_ble_eq_true rfl) hcs hsl rfl (Nat.le_of_ble_eq_true rfl) rfl dLaw_1011 (met_M_octet (kL K) (kD K) (kaC K) BM 53 (fun id h => kdM_lt h) gM cI_xv ec) (fun gM1 cM1 => ?_)
  exact gw_icmp_eq hk.1 cC1 cM1 dLaw_1014 (fun _ => kk _ _ hR gC1 gM1) (fun h => absurd e1 h)
theorem lc_on {K : zK} {BM b L : Nat} {xs : Nat → Int32} {cs sl : Nat} {Q : State → Prop} {mC mM : zM} {i : Int} (hk : zLw K BM) (hcs : cs ≤ 600000) (hsl : sl ≤ 7302250) (hX : va_X b L xs (kS K) (kS K).heap) (hbl : b < (kS K).heap.size) (hL : L ≤ 3072) (i0 : 0 ≤ i) (i1 : i + 6 ≤ (L : Int)) (hR : Rel mC mM) (gC : zG kdC mC) (gM : zG kdM mM) (kk : ∀ mC2 mM2 : zM, Rel mC2 mM2 → zG kdC mC2 → zG kdM mM2 → GoW K (LH K BM mC2 mM2) cs sl Q (lvL K BM b i) [] 1055) : GoW K (LH K BM mC mM) cs sl Q (lvL K BM b i) [] 1019 := by
  obtain ⟨a, ea, c, ec, e1, e2⟩ := @rs_on mC mM  hR
  refine gw_aload_n hk.1 1 rfl dLaw_1019 ?_
  refine lw_callC hk (t := 4) (y := yX11_on) (As := []) (st := []) (by decide) mf_X11_on (inT5 224 rfl rfl) mv_X11_on (Nat.le_of_ble_eq_true rfl) hcs hsl rfl (Nat.le_of_ble_eq_true rfl) rfl dLaw_1020 (met_C_on (kL K) (kD K) (kaC K) (kB K) 249 (fun id h => kdC_lt h) gC  ea) (fun gC1 cC1 => ?_)
  refine gw_aload_n hk.1 2 rfl dLaw_1023 ?_
  refine lw_callM hk (t := 4) (y := yX12_on) (As := []) (st := [mI a.1]) (by decide) mf_X12_on (inT9 16 rfl rfl) mv_X12_on (Nat.le_of_ble_eq_true rfl) hcs hsl rfl (Nat.le_of_ble_eq_true rfl) rfl dLaw_1024 (met_M_on (kL K) (kD K) (kaC K) BM 53 (fun id h => kdM_lt h) gM  ec) (fun gM1 cM1 => ?_)
  exact gw_icmp_eq hk.1 cC1 cM1 dLaw_1027 (fun _ => kk _ _ e2 gC1 gM1) (fun h => absurd e1 h)
theorem lc_status {K : zK} {BM b L : Nat} {xs : Nat → Int32} {cs sl : Nat} {Q : State → Prop} {mC mM : zM} {i : Int} (hk : zLw K BM) (hcs : cs ≤ 600000) (hsl : sl ≤ 7302250) (hX : va_X b L xs (kS K) (kS K).heap) (hbl : b < (kS K).heap.size) (hL : L ≤ 3072) (i0 : 0 ≤ i) (i1 : i + 6 ≤ (L : Int)) (hR : Rel mC mM) (gC : zG kdC mC) (gM : zG kdM mM) (kk : ∀ mC2 mM2 : zM, Rel mC2 mM2 → zG kdC mC2 → zG kdM mM2 → GoW K (LH K BM mC2 mM2) cs sl Q (lvL K BM b i) [] 1055) : GoW K (LH K BM mC mM) cs sl Q (lvL K BM b i) [] 1032 := by
  obtain ⟨a, ea, c, ec, e1⟩ := @rs_status mC mM (xv xs (i + 1)) hR
  refine gw_aload_n hk.1 1 rfl dLaw_1032 ?_
  refine gw_aload_n hk.1 0 rfl dLaw_1033 ?_
  refine gw_iload_n hk.1 3 rfl dLaw_1034 ?_
  refine gw_iconst hk.1 (v := 1) rfl dLaw_1035 ?_
  refine gw_iadd hk.1 dLaw_1036 ?_
  refine gw_top (wI_ok (x := i + 1) (by omega) (by omega)) ?_
  refine lw_sld hk hX hbl hL (by omega) (by omega) dLaw_1037 ?_
  refine lw_callC hk (t := 0) (y := yX11_status) (As := [mI (xv xs (i + 1))]) (st := []) (by decide) mf_X11_status (inT6 8 rfl rfl) mv_X11_status (Nat.le_of_ble_eq_true rfl) hcs hsl rfl (Nat.le_of_ble_eq_true rfl) rfl dLaw_1038 (met_C_status (kL K) (kD K) (kaC K) (kB K) 249 (fun id h => kdC_lt h) gC cI_xv ea) (fun gC1 cC1 => ?_)
  refine gw_aload_n hk.1 2 rfl dLaw_1041 ?_
  refine gw_aload_n hk.1 0 rfl dLaw_1042 ?_
  refine gw_iload_n hk.1 3 rfl dLaw_1043 ?_
  refine gw_iconst hk.1 (v := 1) rfl dLaw_1044 ?_
  refine gw_iadd hk.1 dLaw_1045 ?_
  refine gw_top (wI_ok (x := i + 1) (by omega) (by omega)) ?_
  refine lw_sld hk hX hbl hL (by omega) (by omega) dLaw_1046 ?_
  refine lw_callM hk (t := 0) (y := yX12_status) (As := [mI (xv xs (i + 1))]) (st := [mI a]) (by decide) mf_X12_status (inT7 224 rfl rfl) mv_X12_status (Nat.le_of_ble_eq_true rfl) hcs hsl rfl (Nat.le_of_ble_eq_true rfl) rfl dLaw_1047 (met_M_status (kL K) (kD K) (kaC K) BM 53 (fun id h => kdM_lt h) gM cI_xv ec) (fun gM1 cM1 => ?_)
  exact gw_icmp_eq hk.1 cC1 cM1 dLaw_1050 (fun _ => kk _ _ hR gC1 gM1) (fun h => absurd e1 h)
