def zFld (own : String) (ix ci k : Nat) : Prop := ∃ (C : String) (T : u_T), vwCl[ci]? = some (C, T, nF ci) ∧ (∀ w ∈ u_ws C T (nF ci), w ∈ TBL) ∧ k < nF ci ∧ Cond.fieldLink own ix (T k).1 (T k).2.1 (T k).2.2.1 ∈ TBL
def zFlp (own : String) (ix ci k : Nat) (ty : FieldType) : Prop := ∃ (C : String) (T : u_T) (ty0 : Nat → FieldType), (vwCl[ci]? = some (C, T, nF ci) ∧ (∀ w ∈ u_ws C T (nF ci), w ∈ TBL) ∧ k < nF ci ∧ Cond.fieldLink own ix (T k).1 (T k).2.1 (T k).2.2.1 ∈ TBL) ∧ (∀ k, k < nF ci → parseFieldDescriptor (T k).2.2.1 = some (ty0 k)) ∧ (∀ a, a < nF ci → ∀ b, b < nF ci → a ≠ b → (T a).2.1 ≠ (T b).2.1) ∧ (T k).2.2.2 = false ∧ parseFieldDescriptor (T k).2.2.1 = some ty
def zMf (y : MethodName) (cc : ByteArray) (maxL : Nat) (ret : Option FieldType) (n : Nat) : Prop := Cond.initialized y.cls ∈ TBL ∧ Cond.code y cc maxL ret ∈ TBL ∧ (y.cls ≠ "java/lang/invoke/MethodHandle" ∧ y.cls ≠ "java/lang/invoke/VarHandle" ∧ (parseMethodDescriptor y.desc).map (fun d => d.parameters.length) = some n) ∧ maxL ≤ 13 ∧ plainFor y = true
def zMv (ci : Nat) (y : MethodName) : Prop := Cond.instanceMethod y ∈ TBL ∧ Cond.selects y.cls y y ∈ TBL ∧ ∃ T : u_T, vwCl[ci]? = some (y.cls, T, nF ci)
section ROWS2
variable {K : zK} {kx : Nat → Nat × Nat} {m : zM} {lv : List (Nat × Value)} {st : List Value} {pc nx tgt : Nat} {off : Int} {ρ : zR} {cc : ByteArray} {nL d : Nat} {ret : Option FieldType} {own : String} {β : Type} {o : β}
theorem zOk.lt (hk : zOk K kx cc nL ret own d) {a : Nat} {s : Nat × Nat} (h : kx a = s) (hs : s.1 ≠ 9) : a < kN K := hk.2.2.2.2.2.2.2.2.2.2.1 a (by rw [h]; exact hs)
theorem zOk.kde (hk : zOk K kx cc nL ret own d) : kd K = kx := hk.2.2.2.2.2.2.2.2.2.1
theorem g_getv (hk : zOk K kx cc nL ret own d) {a ci k ix : Nat} (hf : zFld own ix ci k) (ha : kx a = (0, ci)) (hd : zdec cc pc (.getfield ix) 3 nx) (kk : GoAt K m lv (zfv (kB K) a ci (m a) k :: st) nx ρ) : GoAt K m lv (.ref (kB K + a) :: st) pc ρ := by
  obtain ⟨C, T, hc, hin, hkn, hw⟩ := hf
  obtain ⟨hd, rfl⟩ := hd
  intro H locs ls hH hv
  have hlt : a < kN K := hk.lt ha (fun q => absurd (show _ = 9 from q) (by simp))
  have he := zws_get (kd := kd K) (N := kN K) (B := kB K) (aC := kaC K) (m := m) hlt
  rw [hk.kde, zent_obj ha] at he
  have hP := hH.1
  rw [hk.kde] at hP
  exact va_get hk.1 hk.2.1 hk.2.2.2.2.1 hin hk.2.2.2.1 hk.2.2.2.2.2.1 hP a he hc k hkn (hk.2.2.2.2.1 _ hw) (fun _ h => h) (zfs_get hkn) hd (kk H locs ls hH hv)
theorem g_get0 (hk : zOk K kx cc nL ret own d) {a ci k ix : Nat} {j : Int} (hf : zFld own ix ci k) (hs : slT ci k = 0) (hj : (k : Int) = j) (ha : kx a = (0, ci)) (hd : zdec cc pc (.getfield ix) 3 nx) (kk : GoAt K m lv (mI (m a j) :: st) nx ρ) : GoAt K m lv (.ref (kB K + a) :: st) pc ρ := by
  refine g_getv hk hf ha hd ?_
  unfold zfv
  rw [hs, hj]
  exact kk
theorem g_get4 (hk : zOk K kx cc nL ret own d) {a ci k ix : Nat} {j : Int} (hf : zFld own ix ci k) (hs : slT ci k = 4) (hj : (k : Int) = j) (ha : kx a = (0, ci)) (hd : zdec cc pc (.getfield ix) 3 nx) (kk : GoAt K m lv (mI (m a j) :: st) nx ρ) : GoAt K m lv (.ref (kB K + a) :: st) pc ρ := by
  refine g_getv hk hf ha hd ?_
  unfold zfv
  rw [hs, hj]
  exact kk
theorem g_get1 (hk : zOk K kx cc nL ret own d) {a ci k ix : Nat} {j : Int} (hf : zFld own ix ci k) (hs : slT ci k = 1) (hj : (k : Int) = j) (ha : kx a = (0, ci)) (hd : zdec cc pc (.getfield ix) 3 nx) (kk : GoAt K m lv (mL (m a j) :: st) nx ρ) : GoAt K m lv (.ref (kB K + a) :: st) pc ρ := by
  refine g_getv hk hf ha hd ?_
  unfold zfv
  rw [hs, hj]
  exact kk
theorem g_get2 (hk : zOk K kx cc nL ret own d) {a ci k ix b : Nat} (hf : zFld own ix ci k) (hs : slT ci k = 2) (ha : kx a = (0, ci)) (hm : zG kx m) (hb : a + offs ci k = b) (hd : zdec cc pc (.getfield ix) 3 nx) (kk : GoAt K m lv (.ref (kB K + b) :: st) nx ρ) : GoAt K m lv (.ref (kB K + a) :: st) pc ρ := by
  refine g_getv hk hf ha hd ?_
  have h1 : m a (k : Int) = 1 := zGS hm ha (by unfold zty; simp [hs])
  unfold zfv
  rw [hs, h1, hb]
  exact kk
theorem g_get3o (hk : zOk K kx cc nL ret own d) {a ci k ix c : Nat} {j : Int} {F : Nat → Option β} (hf : zFld own ix ci k) (hs : slT ci k = 3) (hj : (k : Int) = j) (ha : kx a = (0, ci)) (hd : zdec cc pc (.getfield ix) 3 nx) (h : mro kx c (m a j) F = some o) (kk : ∀ z, kx z = (0, c) → F z = some o → GoAt K m lv (.ref (kB K + z) :: st) nx ρ) : GoAt K m lv (.ref (kB K + a) :: st) pc ρ := by
  refine g_getv hk hf ha hd ?_
  unfold mro at h
  rcases zite h with ⟨⟨c1, c2⟩, h⟩ | ⟨_, h⟩
  · unfold zfv
    rw [hs, hj]
    show GoAt K m lv ((if m a j = 0 then Value.null else .ref (kB K + (m a j - 1).toNat)) :: st) nx ρ
    rw [if_neg c1]
    exact kk _ c2 h
  · cases h
theorem g_get3a (hk : zOk K kx cc nL ret own d) {a ci k ix : Nat} {j : Int} {F : Nat → Nat → Option β} (hf : zFld own ix ci k) (hs : slT ci k = 3) (hj : (k : Int) = j) (ha : kx a = (0, ci)) (hd : zdec cc pc (.getfield ix) 3 nx) (h : mra kx (m a j) F = some o) (kk : ∀ z n, kx z = (1, n) → F z n = some o → GoAt K m lv (.ref (kB K + z) :: st) nx ρ) : GoAt K m lv (.ref (kB K + a) :: st) pc ρ := by
  refine g_getv hk hf ha hd ?_
  unfold mra at h
  rcases zite h with ⟨⟨c1, c2⟩, h⟩ | ⟨_, h⟩
  · unfold zfv
    rw [hs, hj]
    show GoAt K m lv ((if m a j = 0 then Value.null else .ref (kB K + (m a j - 1).toNat)) :: st) nx ρ
    rw [if_neg c1]
    exact kk _ _ (by rw [← c2]) h
  · cases h
theorem g_putv (hk : zOk K kx cc nL ret own d) {a ci k ix : Nat} {v : Int} {x : Value} {ty : FieldType} {F : zM → Option β} (hf : zFlp own ix ci k ty) (ha : kx a = (0, ci)) (hx : ∀ f, zfv (kB K) a ci (sets f k v) k = x) (hn : narrow ty x = x) (hfit : fits ty x = true) (hz : zok (slT ci k) v) (hd : zdec cc pc (.putfield ix) 3 nx) (h : pf a (k : Int) v m F = some o) (hm : zG kx m) (kk : ∀ m1, zG kx m1 → F m1 = some o → GoAt K m1 lv st nx ρ) : GoAt K m lv (x :: .ref (kB K + a) :: st) pc ρ := by
  obtain ⟨C, T, ty0, ⟨hc, hin, hkn, hw⟩, hty, hnm, hfin, hpd⟩ := hf
  obtain ⟨hd, rfl⟩ := hd
  intro H locs ls hH hv
  have hlt : a < kN K := hk.lt ha (fun q => absurd (show _ = 9 from q) (by simp))
  have he := zws_get (kd := kd K) (N := kN K) (B := kB K) (aC := kaC K) (m := m) hlt
  rw [hk.kde, zent_obj ha] at he
  have hP := hH.1
  rw [hk.kde] at hP
  have hg : zG kx (upm m a (k : Int) v) := zG_up hm (by rw [ha]; unfold zty; simpa using hz)
  refine va_put hk.1 hk.2.1 hk.2.2.2.2.1 hin ty0 hty hnm hk.2.2.2.1 hk.2.2.2.2.2.1 hP zws_D hH.2.2 a he hc k hkn (hk.2.2.2.2.1 _ hw) (fun _ h => h) hfin hpd hn hfit (by simpa using hkn) hd (fun H1 locs1 hP1 _ hS1 => ?_)
  refine kk (upm m a (k : Int) v) hg h H1 locs1 ls ⟨?_, by rw [hk.kde]; exact hg, hS1⟩ hv
  rw [zfs_set hkn (hx (m a)), zws_set (m1 := upm m a (k : Int) v) hlt (by rw [zent_obj ha, upm_eq]) (fun j hj => upm_ne hj)] at hP1
  rw [hk.kde]
  exact hP1
theorem fits_int (x : Int32) : fits .int (.int x) = true := rfl
theorem fits_lng (x : Int64) : fits .long (.long x) = true := rfl
theorem fits_boo {x : Int} (h : zok 4 x) : fits .boolean (mI x) = true := by
  rcases h with rfl | rfl <;> first | rfl | decide
theorem g_put0 (hk : zOk K kx cc nL ret own d) {a ci k ix : Nat} {v j : Int} {F : zM → Option β} (hf : zFlp own ix ci k .int) (hs : slT ci k = 0) (hj : (k : Int) = j) (ha : kx a = (0, ci)) (cv : cI v) (hd : zdec cc pc (.putfield ix) 3 nx) (h : pf a j v m F = some o) (hm : zG kx m) (kk : ∀ m1, zG kx m1 → F m1 = some o → GoAt K m1 lv st nx ρ) : GoAt K m lv (mI v :: .ref (kB K + a) :: st) pc ρ := by
  subst hj
  exact g_putv hk hf ha (fun f => by unfold zfv; rw [hs, sets_eq]; rfl) (vp_nar_int _) (fits_int _) (by rw [hs]; exact cv) hd h hm kk
theorem g_put4 (hk : zOk K kx cc nL ret own d) {a ci k ix : Nat} {v j : Int} {F : zM → Option β} (hf : zFlp own ix ci k .boolean) (hs : slT ci k = 4) (hj : (k : Int) = j) (ha : kx a = (0, ci)) (cv : zok 4 v) (hd : zdec cc pc (.putfield ix) 3 nx) (h : pf a j v m F = some o) (hm : zG kx m) (kk : ∀ m1, zG kx m1 → F m1 = some o → GoAt K m1 lv st nx ρ) : GoAt K m lv (mI v :: .ref (kB K + a) :: st) pc ρ := by
  subst hj
  exact g_putv hk hf ha (fun f => by unfold zfv; rw [hs, sets_eq]; rfl) (nar4 cv) (fits_boo cv) (by rw [hs]; exact cv) hd h hm kk
theorem g_put1 (hk : zOk K kx cc nL ret own d) {a ci k ix : Nat} {v j : Int} {F : zM → Option β} (hf : zFlp own ix ci k .long) (hs : slT ci k = 1) (hj : (k : Int) = j) (ha : kx a = (0, ci)) (cv : cL v) (hd : zdec cc pc (.putfield ix) 3 nx) (h : pf a j v m F = some o) (hm : zG kx m) (kk : ∀ m1, zG kx m1 → F m1 = some o → GoAt K m1 lv st nx ρ) : GoAt K m lv (mL v :: .ref (kB K + a) :: st) pc ρ := by
  subst hj
  exact g_putv hk hf ha (fun f => by unfold zfv; rw [hs, sets_eq]; rfl) rfl (fits_lng _) (by rw [hs]; exact cv) hd h hm kk
theorem g_put3 (hk : zOk K kx cc nL ret own d) {a ci k ix z : Nat} {j : Int} {ty : FieldType} {F : zM → Option β} (hf : zFlp own ix ci k ty) (hty : narrow ty (.ref (kB K + z)) = .ref (kB K + z) ∧ fits ty (.ref (kB K + z)) = true) (hs : slT ci k = 3) (hj : (k : Int) = j) (ha : kx a = (0, ci)) (hzl : z < 2147483647) (hd : zdec cc pc (.putfield ix) 3 nx) (h : pf a j ((z : Int) + 1) m F = some o) (hm : zG kx m) (kk : ∀ m1, zG kx m1 → F m1 = some o → GoAt K m1 lv st nx ρ) : GoAt K m lv (.ref (kB K + z) :: .ref (kB K + a) :: st) pc ρ := by
  subst hj
  refine g_putv hk hf ha (fun f => ?_) hty.1 hty.2 (by rw [hs]; show cI _; unfold cI; omega) hd h hm kk
  unfold zfv
  rw [hs, sets_eq]
  show (if ((z : Int) + 1) = 0 then Value.null else .ref (kB K + ((z : Int) + 1 - 1).toNat)) = _
  rw [if_neg (by omega), show ((z : Int) + 1 - 1).toNat = z by omega]
theorem g_iald (hk : zOk K kx cc nL ret own d) {a n : Nat} {i : Int} {F : Int → Option β} (c : cI i) (ha : kx a = (1, n)) (hm : zG kx m) (hd : zdec cc pc (.iaload) 1 nx) (h : rd a n i m F = some o) (kk : ∀ x, cI x → F x = some o → GoAt K m lv (mI x :: st) nx ρ) : GoAt K m lv (mI i :: .ref (kB K + a) :: st) pc ρ := by
  obtain ⟨hd, rfl⟩ := hd
  unfold rd at h
  rcases zite h with ⟨⟨c1, c2⟩, h⟩ | ⟨_, h⟩
  · intro H locs ls hH hv
    have hlt : a < kN K := hk.lt ha (fun q => absurd (show _ = 9 from q) (by simp))
    have he := zws_get (kd := kd K) (N := kN K) (B := kB K) (aC := kaC K) (m := m) hlt
    rw [hk.kde, zent_int ha] at he
    have hP := hH.1
    rw [hk.kde] at hP
    obtain ⟨v1, v2⟩ := vin_of c c1 c2
    refine va_iald hk.1 hk.2.1 hk.2.2.2.2.2.1 hP a 0 he rfl v1 hd ?_
    rw [v2, show ((i.toNat : Nat) : Int) = i by omega]
    exact kk _ (zGI hm ha rfl) h H locs ls hH hv
  · cases h
theorem g_lald (hk : zOk K kx cc nL ret own d) {a n : Nat} {i : Int} {F : Int → Option β} (c : cI i) (ha : kx a = (2, n)) (hm : zG kx m) (hd : zdec cc pc (.laload) 1 nx) (h : rd a n i m F = some o) (kk : ∀ x, cL x → F x = some o → GoAt K m lv (mL x :: st) nx ρ) : GoAt K m lv (mI i :: .ref (kB K + a) :: st) pc ρ := by
  obtain ⟨hd, rfl⟩ := hd
  unfold rd at h
  rcases zite h with ⟨⟨c1, c2⟩, h⟩ | ⟨_, h⟩
  · intro H locs ls hH hv
    have hlt : a < kN K := hk.lt ha (fun q => absurd (show _ = 9 from q) (by simp))
    have he := zws_get (kd := kd K) (N := kN K) (B := kB K) (aC := kaC K) (m := m) hlt
    rw [hk.kde, zent_lng ha] at he
    have hP := hH.1
    rw [hk.kde] at hP
    obtain ⟨v1, v2⟩ := vin_of c c1 c2
    refine va_lald hk.1 hk.2.1 hk.2.2.2.2.2.1 hP a 1 he rfl v1 hd ?_
    rw [v2, show ((i.toNat : Nat) : Int) = i by omega]
    exact kk _ (zGL hm ha rfl) h H locs ls hH hv
  · cases h
theorem g_zald (hk : zOk K kx cc nL ret own d) {a n : Nat} {i : Int} {F : Int → Option β} (c : cI i) (ha : kx a = (3, n)) (hm : zG kx m) (hd : zdec cc pc (.baload) 1 nx) (h : rd a n i m F = some o) (kk : ∀ x, zok 4 x → F x = some o → GoAt K m lv (mI x :: st) nx ρ) : GoAt K m lv (mI i :: .ref (kB K + a) :: st) pc ρ := by
  obtain ⟨hd, rfl⟩ := hd
  unfold rd at h
  rcases zite h with ⟨⟨c1, c2⟩, h⟩ | ⟨_, h⟩
  · intro H locs ls hH hv
    have hlt : a < kN K := hk.lt ha (fun q => absurd (show _ = 9 from q) (by simp))
    have he := zws_get (kd := kd K) (N := kN K) (B := kB K) (aC := kaC K) (m := m) hlt
    rw [hk.kde, zent_boo ha] at he
    have hP := hH.1
    rw [hk.kde] at hP
    obtain ⟨v1, v2⟩ := vin_of c c1 c2
    refine va_zald hk.1 hk.2.1 hk.2.2.2.2.2.1 hP a 2 he rfl v1 hd ?_
    rw [v2, show ((i.toNat : Nat) : Int) = i by omega]
    exact kk _ (zGZ hm ha rfl) h H locs ls hH hv
  · cases h
theorem g_iast (hk : zOk K kx cc nL ret own d) {a n : Nat} {i v : Int} {F : zM → Option β} (c : cI i) (cv : cI v) (ha : kx a = (1, n)) (hm : zG kx m) (hd : zdec cc pc (.iastore) 1 nx) (h : wr a n i v m F = some o) (kk : ∀ m1, zG kx m1 → F m1 = some o → GoAt K m1 lv st nx ρ) : GoAt K m lv (mI v :: mI i :: .ref (kB K + a) :: st) pc ρ := by
  obtain ⟨hd, rfl⟩ := hd
  unfold wr at h
  rcases zite h with ⟨⟨c1, c2⟩, h⟩ | ⟨_, h⟩
  · intro H locs ls hH hv
    have hlt : a < kN K := hk.lt ha (fun q => absurd (show _ = 9 from q) (by simp))
    have he := zws_get (kd := kd K) (N := kN K) (B := kB K) (aC := kaC K) (m := m) hlt
    rw [hk.kde, zent_int ha] at he
    have hP := hH.1
    rw [hk.kde] at hP
    obtain ⟨v1, v2⟩ := vin_of c c1 c2
    have hg : zG kx (upm m a i v) := zG_up hm (by rw [ha]; exact cv)
    refine va_iast hk.1 hk.2.1 hk.2.2.2.2.2.1 hP zws_D hH.2.2 a 0 he rfl v1 hd (fun H1 locs1 hP1 _ hS1 => ?_)
    refine kk _ hg h H1 locs1 ls ⟨?_, by rw [hk.kde]; exact hg, hS1⟩ hv
    rw [v2, upd_oI c1, zws_set (m1 := upm m a i v) hlt (by rw [zent_int ha, upm_eq]) (fun j hj => upm_ne hj)] at hP1
    rw [hk.kde]
    exact hP1
  · cases h
theorem g_last (hk : zOk K kx cc nL ret own d) {a n : Nat} {i v : Int} {F : zM → Option β} (c : cI i) (cv : cL v) (ha : kx a = (2, n)) (hm : zG kx m) (hd : zdec cc pc (.lastore) 1 nx) (h : wr a n i v m F = some o) (kk : ∀ m1, zG kx m1 → F m1 = some o → GoAt K m1 lv st nx ρ) : GoAt K m lv (mL v :: mI i :: .ref (kB K + a) :: st) pc ρ := by
  obtain ⟨hd, rfl⟩ := hd
  unfold wr at h
  rcases zite h with ⟨⟨c1, c2⟩, h⟩ | ⟨_, h⟩
  · intro H locs ls hH hv
    have hlt : a < kN K := hk.lt ha (fun q => absurd (show _ = 9 from q) (by simp))
    have he := zws_get (kd := kd K) (N := kN K) (B := kB K) (aC := kaC K) (m := m) hlt
    rw [hk.kde, zent_lng ha] at he
    have hP := hH.1
    rw [hk.kde] at hP
    obtain ⟨v1, v2⟩ := vin_of c c1 c2
    have hg : zG kx (upm m a i v) := zG_up hm (by rw [ha]; exact cv)
    refine va_last hk.1 hk.2.1 hk.2.2.2.2.2.1 hP zws_D hH.2.2 a 1 he rfl v1 hd (fun H1 locs1 hP1 _ hS1 => ?_)
    refine kk _ hg h H1 locs1 ls ⟨?_, by rw [hk.kde]; exact hg, hS1⟩ hv
    rw [v2, upd_oL c1, zws_set (m1 := upm m a i v) hlt (by rw [zent_lng ha, upm_eq]) (fun j hj => upm_ne hj)] at hP1
    rw [hk.kde]
    exact hP1
  · cases h
theorem vnar4 {x : Int} (h : zok 4 x) : vp_nar .boolean (Int32.ofInt x) = Int32.ofInt x := by
  unfold vp_nar
  have := nar4 h
  unfold mI at this
  rw [this]
theorem g_zast (hk : zOk K kx cc nL ret own d) {a n : Nat} {i v : Int} {F : zM → Option β} (c : cI i) (cv : zok 4 v) (ha : kx a = (3, n)) (hm : zG kx m) (hd : zdec cc pc (.bastore) 1 nx) (h : wr a n i v m F = some o) (kk : ∀ m1, zG kx m1 → F m1 = some o → GoAt K m1 lv st nx ρ) : GoAt K m lv (mI v :: mI i :: .ref (kB K + a) :: st) pc ρ := by
  obtain ⟨hd, rfl⟩ := hd
  unfold wr at h
  rcases zite h with ⟨⟨c1, c2⟩, h⟩ | ⟨_, h⟩
  · intro H locs ls hH hv
    have hlt : a < kN K := hk.lt ha (fun q => absurd (show _ = 9 from q) (by simp))
    have he := zws_get (kd := kd K) (N := kN K) (B := kB K) (aC := kaC K) (m := m) hlt
    rw [hk.kde, zent_boo ha] at he
    have hP := hH.1
    rw [hk.kde] at hP
    obtain ⟨v1, v2⟩ := vin_of c c1 c2
    have hg : zG kx (upm m a i v) := zG_up hm (by rw [ha]; exact cv)
    refine va_zast hk.1 hk.2.1 hk.2.2.2.2.2.1 hP zws_D hH.2.2 a 2 he rfl v1 hd (fun H1 locs1 hP1 _ hS1 => ?_)
    refine kk _ hg h H1 locs1 ls ⟨?_, by rw [hk.kde]; exact hg, hS1⟩ hv
    rw [vnar4 cv, v2, upd_oI c1, zws_set (m1 := upm m a i v) hlt (by rw [zent_boo ha, upm_eq]) (fun j hj => upm_ne hj)] at hP1
    rw [hk.kde]
    exact hP1
  · cases h
end ROWS2
