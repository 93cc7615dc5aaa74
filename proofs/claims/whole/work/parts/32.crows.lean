/-! constructors: n cells of the world stand, the heap ends with them -/
def zHc (K : zK) (n cs : Nat) (m : zM) (H : Heap) (locs : List Loc) : Prop := va_P (kD K) vwCl (zws (kd K) n (kB K) (kaC K) m) H ∧ (1 ≤ n ∧ (kS K).heap.size + cs = kB K + n) ∧ (∀ id, n ≤ id → m id = fun _ => 0) ∧ va_S (fun q => kB K ≤ q) (kS K).heap H locs
def zOc (K : zK) (kx : Nat → Nat × Nat) (cc : ByteArray) (nL : Nat) (own : String) (mc ms d : Nat) : Prop := zOw K cc nL own ∧ va_K (kD K) vwCl (ztys (kaC K)) (kS K) ∧ (kMe K).sig.returnType = none ∧ (kMe K).locks = false ∧ kR K = { frames := d, cells := mc, slots := ms, locals := 32 * d } ∧ kd K = kx ∧ (kMe K).name = "<init>" ∧ zNw (kS K) ∧ kB K ≤ (kS K).heap.size
def zws_succ {kd : Nat → Nat × Nat} {n B : Nat} {aC : Nat → ClassId} {m : zM} : zws kd (n + 1) B aC m = zws kd n B aC m ++ [(B + n, zent B aC n (kd n) (m n))] := by
  unfold zws
  rw [List.range_succ, List.map_append]
  rfl
theorem zwsD' {kd : Nat → Nat × Nat} {N B : Nat} {aC : Nat → ClassId} {m : zM} : va_D (fun q => B ≤ q) (zws kd N B aC m) := ⟨zws_D.1, fun k q h => (zws_D.2 k q h).1⟩
theorem zP_push {D : va_G} {kd : Nat → Nat × Nat} {n B : Nat} {aC : Nat → ClassId} {m : zM} {H H1 : Heap} (hP : va_P D vwCl (zws kd n B aC m) H) (ho : ∀ q, q < H.size → H1[q]? = H[q]?) (hn : va_at D vwCl (B + n, zent B aC n (kd n) (m n)) H1) : va_P D vwCl (zws kd (n + 1) B aC m) H1 := by
  rw [zws_succ]
  refine (hP.kept (fun k q h => ho _ (hP k q h).lt)).app (fun k q h => ?_)
  have hz : k < 1 := (List.getElem?_eq_some_iff.mp h).1
  rw [show k = 0 by omega] at h
  cases h
  exact hn
theorem W.sz {p : Program} {l : Launch} {e : Env} {R : Room} {s : State} {m : MethodId} {args : Array Value} {below : List Frame} {meth : Method} {c : Code} {H : Heap} {locs : List Loc} {cells slots : Nat} {Q : State → Prop} {g : JFrame} (k : H.size ≤ s.heap.size + cells → W p l e R s m args below meth c H locs cells slots Q g) : W p l e R s m args below meth c H locs cells slots Q g := fun T hT X => k (by rw [← hT]; exact X.same.2.2.1) T hT X
theorem zP_size {D : va_G} {kd : Nat → Nat × Nat} {n B : Nat} {aC : Nat → ClassId} {m : zM} {H : Heap} (hP : va_P D vwCl (zws kd n B aC m) H) (h : 1 ≤ n) : B + n ≤ H.size := by
  have := (hP (n - 1) _ (zws_get (by omega))).lt
  have h2 : B + (n - 1) < H.size := this
  omega
section CROWS
variable {K : zK} {kx : Nat → Nat × Nat} {Hp : Heap → List Loc → Prop} {n cs sl : Nat} {m : zM} {Q : State → Prop} {lv : List (Nat × Value)} {st : List Value} {pc nx tgt : Nat} {cc : ByteArray} {nL mc ms d : Nat} {own : String}
theorem zOc.kde (hk : zOc K kx cc nL own mc ms d) : kd K = kx := hk.2.2.2.2.2.1
theorem zOc.r (hk : zOc K kx cc nL own mc ms d) : kR K = { frames := d, cells := mc, slots := ms, locals := 32 * d } := hk.2.2.2.2.1
theorem gc_obj (hk : zOc K kx cc nL own mc ms d) {a ix : Nat} (hw : Cond.methodLink own ix Lib.objectInit ∈ TBL) (hw2 : Cond.instanceMethod Lib.objectInit ∈ TBL) (hw3 : Cond.code Lib.objectInit ⟨#[0xb1]⟩ 1 none ∈ TBL) (hdd : 1 ≤ d) (hd : zdec cc pc (.invokespecial ix) 3 nx) (kk : GoW K Hp cs sl Q lv [] nx) : GoW K Hp cs sl Q lv [.ref a] pc := by
  obtain ⟨hd, rfl⟩ := hd
  intro H locs ls hH hv
  have hts := hk.1.2.2.2.2.1
  refine W.objInit hk.1.1 hk.1.2.1 hk.1.2.2.2.1 (hts _ hw) (hts _ hw2) (hts _ hw3) rfl (by exact hv.1) rfl hd (by rw [hk.r]; exact hdd) (by rw [hk.r]; show 2 * 0 + 0 + 12 ≤ 32 * d; omega) ?_
  exact kk H locs ls hH hv
theorem gc_newa (hk : zOc K kx cc nL own mc ms d) {N : Nat} {x : Int} {aty : ArrayType} {srt : Nat} (hw : Cond.arrayClass (newarray.typeOf aty) ∈ TBL) (hty : (ztys (kaC K))[srt]? = some (kaC K (srt + 1), newarray.typeOf aty)) (hna : ∀ t C, newarray.typeOf aty = t → t ≠ .object C) (hx : x = (N : Int)) (hN : N < 100000) (hkn : kx n = (srt + 1, N)) (hz : ∀ cA : ClassId, vp_cell cA (N, (zent (kB K) (kaC K) n (srt + 1, N) (fun _ => 0)).elim (fun q => q.2.2) (fun _ => .inl (fun _ => 0))) = arrV cA N (fun _ => defaultValue (newarray.typeOf aty))) (he : zent (kB K) (kaC K) n (srt + 1, N) (fun _ => 0) = .inl (kaC K (srt + 1), N, (zent (kB K) (kaC K) n (srt + 1, N) (fun _ => 0)).elim (fun q => q.2.2) (fun _ => .inl (fun _ => 0)))) (hby : componentBytes (newarray.typeOf aty) ≤ 8) (hc : cs + 1 ≤ mc) (hs : sl + N ≤ ms) (hd : zdec cc pc (.newarray aty) 2 nx) (kk : GoW K (zHc K (n + 1) (cs + 1) m) (cs + 1) (sl + N) Q lv (.ref (kB K + n) :: st) nx) : GoW K (zHc K n cs m) cs sl Q lv (mI x :: st) pc := by
  obtain ⟨hd, rfl⟩ := hd
  intro H locs ls hH hv
  obtain ⟨hP, ⟨hn1, hcs⟩, hz0, hS⟩ := hH
  refine W.sz (fun hsz0 => ?_)
  have hsz : H.size = kB K + n := Nat.le_antisymm (by omega) (zP_size hP hn1)
  have hts := hk.1.2.2.2.2.1
  subst hx
  have hcN : cI (N : Int) := by unfold cI; omega
  refine va_newaK hk.1.1 hk.1.2.1 (hts _ hw) rfl hd rfl (n := Int32.ofInt (N : Int)) (N := N) (by rw [show (0 : Int32) = Int32.ofInt 0 from rfl, ilt_v hcN c0I]; omega) (by rw [Int32.toNatClampNeg_ofInt_of_le hcN.1 hcN.2]; omega) (by calc N * _ ≤ N * 8 := Nat.mul_le_mul_left _ hby
    _ ≤ _ := by omega) (by rw [hk.r]; exact hc) (by rw [hk.r]; exact hs) (h := kB K + n) hsz (fun H' cA e1 z1 o1 hAr hNm => ?_)
  have hcA : cA = kaC K (srt + 1) := by
    have h2 := (hk.2.1.2 srt _ hty).2
    have h3 : (kS K).vm.findClass ("[" ++ (newarray.typeOf aty).toString) = some (kaC K (srt + 1)) := by
      cases haty : newarray.typeOf aty with
      | object C => exact absurd rfl (hna _ C haty)
      | _ => rw [haty] at h2; exact h2
    exact Option.some.inj (hNm.symm.trans h3)
  refine kk H' locs ls ⟨?_, ⟨by omega, by omega⟩, fun id h => hz0 id (by omega), ⟨Nat.le_trans hS.1 (by omega), fun q h1 h2 => by rw [o1 q (by have := hS.1; omega)]; exact hS.2.1 q h1 h2, hS.2.2⟩⟩ hv
  refine zP_push hP (fun q hq => o1 q (by omega)) ?_
  rw [hz0 n (Nat.le_refl n), hk.kde, hkn, he]
  show H'[kB K + n]? = some (vp_cell _ _)
  rw [hz, e1, hcA]
theorem gc_newi (hk : zOc K kx cc nL own mc ms d) {N : Nat} {x : Int} (hw : Cond.arrayClass .int ∈ TBL) (hx : x = (N : Int)) (hN : N < 100000) (hkn : kx n = (1, N)) (hc : cs + 1 ≤ mc) (hs : sl + N ≤ ms) (hd : zdec cc pc (.newarray .int) 2 nx) (kk : GoW K (zHc K (n + 1) (cs + 1) m) (cs + 1) (sl + N) Q lv (.ref (kB K + n) :: st) nx) : GoW K (zHc K n cs m) cs sl Q lv (mI x :: st) pc :=
  gc_newa hk (aty := .int) (srt := 0) hw rfl (fun t C h => by subst h; intro h; cases h) hx hN hkn (fun _ => rfl) rfl (by decide) hc hs hd kk
theorem gc_newl (hk : zOc K kx cc nL own mc ms d) {N : Nat} {x : Int} (hw : Cond.arrayClass .long ∈ TBL) (hx : x = (N : Int)) (hN : N < 100000) (hkn : kx n = (2, N)) (hc : cs + 1 ≤ mc) (hs : sl + N ≤ ms) (hd : zdec cc pc (.newarray .long) 2 nx) (kk : GoW K (zHc K (n + 1) (cs + 1) m) (cs + 1) (sl + N) Q lv (.ref (kB K + n) :: st) nx) : GoW K (zHc K n cs m) cs sl Q lv (mI x :: st) pc :=
  gc_newa hk (aty := .long) (srt := 1) hw rfl (fun t C h => by subst h; intro h; cases h) hx hN hkn (fun _ => rfl) rfl (by decide) hc hs hd kk
theorem gc_newz (hk : zOc K kx cc nL own mc ms d) {N : Nat} {x : Int} (hw : Cond.arrayClass .boolean ∈ TBL) (hx : x = (N : Int)) (hN : N < 100000) (hkn : kx n = (3, N)) (hc : cs + 1 ≤ mc) (hs : sl + N ≤ ms) (hd : zdec cc pc (.newarray .boolean) 2 nx) (kk : GoW K (zHc K (n + 1) (cs + 1) m) (cs + 1) (sl + N) Q lv (.ref (kB K + n) :: st) nx) : GoW K (zHc K n cs m) cs sl Q lv (mI x :: st) pc :=
  gc_newa hk (aty := .boolean) (srt := 2) hw rfl (fun t C h => by subst h; intro h; cases h) hx hN hkn (fun _ => rfl) rfl (by decide) hc hs hd kk
theorem gc_new (hk : zOc K kx cc nL own mc ms d) {ci ix : Nat} {C : String} {T : u_T} (ty : Nat → FieldType) (hcl : vwCl[ci]? = some (C, T, nF ci)) (hin : ∀ w ∈ u_ws C T (nF ci), w ∈ TBL) (hty : ∀ k, k < nF ci → parseFieldDescriptor (T k).2.2.1 = some (ty k)) (hdf : ∀ k, k < nF ci → defaultValue (ty k) = zfv 0 0 ci (fun _ => 0) k) (hw : Cond.classLink own ix C ∈ TBL) (hw2 : Cond.instantiable C (nF ci) ∈ TBL) (hw3 : Cond.initialized C ∈ TBL) (hkn : kx n = (0, ci)) (hc : cs + 1 ≤ mc) (hs : sl + nF ci ≤ ms) (hd : zdec cc pc (.new ix) 3 nx) (kk : GoW K (zHc K (n + 1) (cs + 1) m) (cs + 1) (sl + nF ci) Q lv (.ref (kB K + n) :: st) nx) : GoW K (zHc K n cs m) cs sl Q lv st pc := by
  obtain ⟨hd, rfl⟩ := hd
  intro H locs ls hH hv
  obtain ⟨hP, ⟨hn1, hcs⟩, hz0, hS⟩ := hH
  refine W.sz (fun hsz0 => ?_)
  have hsz : H.size = kB K + n := Nat.le_antisymm (by omega) (zP_size hP hn1)
  have hts := hk.1.2.2.2.2.1
  have hKn := hk.2.1.1 ci _ hcl
  refine W.newcK hk.1.1 hk.1.2.1 hk.1.2.2.2.1 (hts _ hw) (hts _ hw2) (hts _ hw3) rfl hd (by rw [hk.r]; exact hc) (by rw [hk.r]; exact hs) hKn.2.1 (h := kB K + n) hsz (fun H1 kC hkC e1 z1 o1 => ?_)
  refine kk H1 locs ls ⟨?_, ⟨by omega, by omega⟩, fun id h => hz0 id (by omega), ⟨Nat.le_trans hS.1 (by omega), fun q h1 h2 => by rw [o1 q (by have := hS.1; omega)]; exact hS.2.1 q h1 h2, hS.2.2⟩⟩ hv
  refine zP_push hP (fun q hq => o1 q (by omega)) ?_
  rw [hz0 n (Nat.le_refl n), hk.kde, zent_obj hkn]
  refine ⟨_, hcl, (u_born ty hts hin hKn hkC e1 hty).to (fun j hj => ?_)⟩
  show defaultValue (ty j) = vp_V _ j
  rw [hdf j hj]
  unfold vp_V
  rw [List.getD_eq_getElem?_getD, zfs_get hj]
  show zfv 0 0 ci (fun _ => 0) j = zfv (kB K) n ci (fun _ => 0) j
  unfold zfv
  rfl
theorem zHc_put {o ci k : Nat} {v : Int} {x : Value} {H1 : Heap} {locs1 : List Loc} (hlt : o < n) (hko : kx o = (0, ci)) (hkd : kd K = kx) (hkn : k < nF ci) (hx : ∀ f, zfv (kB K) o ci (sets f k v) k = x) (hsz : 1 ≤ n ∧ (kS K).heap.size + cs = kB K + n) (hz0 : ∀ id, n ≤ id → m id = fun _ => 0) (hS1 : va_S (fun q => kB K ≤ q) (kS K).heap H1 locs1) (hP1 : va_P (kD K) vwCl ((zws kx n (kB K) (kaC K) m).set o (kB K + o, .inr (ci, ((List.range (nF ci)).map (zfv (kB K) o ci (m o))).set k x))) H1) : zHc K n cs (upm m o k v) H1 locs1 := by
  refine ⟨?_, hsz, fun id h => by rw [upm_ne (by omega)]; exact hz0 id h, hS1⟩
  rw [zfs_set hkn (hx (m o)), zws_set (m1 := upm m o (k : Int) v) hlt (by rw [zent_obj hko, upm_eq]) (fun j hj => upm_ne hj)] at hP1
  rw [hkd]
  exact hP1
theorem gc_putv (hk : zOc K kx cc nL own mc ms d) {o ci k ix : Nat} {v : Int} {x : Value} {ty : FieldType} (hf : zFlp own ix ci k ty) (hko : kx o = (0, ci)) (hlt : o < n) (hx : ∀ f, zfv (kB K) o ci (sets f k v) k = x) (hnr : narrow ty x = x) (hfit : fits ty x = true) (hd : zdec cc pc (.putfield ix) 3 nx) (kk : GoW K (zHc K n cs (upm m o k v)) cs sl Q lv st nx) : GoW K (zHc K n cs m) cs sl Q lv (x :: .ref (kB K + o) :: st) pc := by
  obtain ⟨C, T, ty0, ⟨hc, hin, hkn, hw⟩, hty, hnm, hfin, hpd⟩ := hf
  obtain ⟨hd, rfl⟩ := hd
  intro H locs ls hH hv
  obtain ⟨hP, hsz, hz0, hS⟩ := hH
  have he := zws_get (kd := kd K) (N := n) (B := kB K) (aC := kaC K) (m := m) hlt
  rw [hk.kde, zent_obj hko] at he
  rw [hk.kde] at hP
  refine va_put hk.1.1 hk.1.2.1 hk.1.2.2.2.2.1 hin ty0 hty hnm hk.1.2.2.2.1 hk.2.1 hP zwsD' hS o he hc k hkn (hk.1.2.2.2.2.1 _ hw) (fun _ h => h) hfin hpd hnr hfit (by simpa using hkn) hd (fun H1 locs1 hP1 _ hS1 => ?_)
  exact kk H1 locs1 ls (zHc_put hlt hko hk.kde hkn hx hsz hz0 hS1 hP1) hv
theorem gc_putF (hk : zOc K kx cc nL own mc ms d) {o ci k ix t : Nat} {C : String} {T : u_T} (ty0 : Nat → FieldType) {ty : FieldType} (hc : vwCl[ci]? = some (C, T, nF ci)) (hin : ∀ w ∈ u_ws C T (nF ci), w ∈ TBL) (hkn : k < nF ci) (hw : Cond.fieldLink own ix (T k).1 (T k).2.1 (T k).2.2.1 ∈ TBL) (hty : ∀ k, k < nF ci → parseFieldDescriptor (T k).2.2.1 = some (ty0 k)) (hnm : ∀ a, a < nF ci → ∀ b, b < nF ci → a ≠ b → (T a).2.1 ≠ (T b).2.1) (hfin : (T k).2.2.2 = true) (hdecl : (T k).1 = own) (hpd : parseFieldDescriptor (T k).2.2.1 = some ty) (hko : kx o = (0, ci)) (hlt : o < n) (hs : slT ci k = 2) (ht : o + offs ci k = t) (hnr : ∀ a, narrow ty (.ref a) = .ref a) (hfit : ∀ a, fits ty (.ref a) = true) (hd : zdec cc pc (.putfield ix) 3 nx) (kk : GoW K (zHc K n cs (upm m o k 1)) cs sl Q lv st nx) : GoW K (zHc K n cs m) cs sl Q lv (.ref (kB K + t) :: .ref (kB K + o) :: st) pc := by
  obtain ⟨hd, rfl⟩ := hd
  intro H locs ls hH hv
  obtain ⟨hP, hsz, hz0, hS⟩ := hH
  have he := zws_get (kd := kd K) (N := n) (B := kB K) (aC := kaC K) (m := m) hlt
  rw [hk.kde, zent_obj hko] at he
  rw [hk.kde] at hP
  refine va_putF hk.1.1 hk.1.2.1 hk.1.2.2.2.2.1 hin ty0 hty hnm hk.1.2.2.2.1 hk.2.1 hP zwsD' hS o he hc k hkn (hk.1.2.2.2.2.1 _ hw) (fun _ h => h) hfin hk.2.2.2.2.2.2.1 hdecl hpd (hnr _) (hfit _) (by simpa using hkn) hd (fun H1 locs1 hP1 _ hS1 => ?_)
  refine kk H1 locs1 ls (zHc_put hlt hko hk.kde hkn (x := .ref (kB K + t)) (fun f => ?_) hsz hz0 hS1 hP1) hv
  unfold zfv
  rw [hs, sets_eq]
  show (if (1 : Int) = 0 then Value.null else .ref (kB K + (o + offs ci k))) = _
  rw [if_neg (by decide), ht]
theorem gc_get2 (hk : zOc K kx cc nL own mc ms d) {o ci k ix t : Nat} (hf : zFld own ix ci k) (hs : slT ci k = 2) (hko : kx o = (0, ci)) (hlt : o < n) (h1 : m o (k : Int) = 1) (ht : o + offs ci k = t) (hd : zdec cc pc (.getfield ix) 3 nx) (kk : GoW K (zHc K n cs m) cs sl Q lv (.ref (kB K + t) :: st) nx) : GoW K (zHc K n cs m) cs sl Q lv (.ref (kB K + o) :: st) pc := by
  obtain ⟨C, T, hc, hin, hkn, hw⟩ := hf
  obtain ⟨hd, rfl⟩ := hd
  intro H locs ls hH hv
  have he := zws_get (kd := kd K) (N := n) (B := kB K) (aC := kaC K) (m := m) hlt
  rw [hk.kde, zent_obj hko] at he
  have hP := hH.1
  rw [hk.kde] at hP
  refine va_get hk.1.1 hk.1.2.1 hk.1.2.2.2.2.1 hin hk.1.2.2.2.1 hk.2.1 hP o he hc k hkn (hk.1.2.2.2.2.1 _ hw) (fun _ h => h) (zfs_get hkn) hd ?_
  have e : zfv (kB K) o ci (m o) k = .ref (kB K + t) := by
    unfold zfv
    rw [hs, h1]
    show (if (1 : Int) = 0 then Value.null else .ref (kB K + (o + offs ci k))) = _
    rw [if_neg (by decide), ht]
  rw [e]
  exact kk H locs ls hH hv
theorem gc_iast (hk : zOc K kx cc nL own mc ms d) {a N : Nat} {i v : Int} (c : cI i) (h0 : 0 ≤ i) (h1 : i < (N : Int)) (hka : kx a = (1, N)) (hlt : a < n) (hd : zdec cc pc (.iastore) 1 nx) (kk : GoW K (zHc K n cs (upm m a i v)) cs sl Q lv st nx) : GoW K (zHc K n cs m) cs sl Q lv (mI v :: mI i :: .ref (kB K + a) :: st) pc := by
  obtain ⟨hd, rfl⟩ := hd
  intro H locs ls hH hv
  obtain ⟨hP, hsz, hz0, hS⟩ := hH
  have he := zws_get (kd := kd K) (N := n) (B := kB K) (aC := kaC K) (m := m) hlt
  rw [hk.kde, zent_int hka] at he
  rw [hk.kde] at hP
  obtain ⟨v1, v2⟩ := vin_of c h0 h1
  refine va_iast hk.1.1 hk.1.2.1 hk.2.1 hP zwsD' hS a 0 he rfl v1 hd (fun H1 locs1 hP1 _ hS1 => ?_)
  refine kk H1 locs1 ls ⟨?_, hsz, fun id h => by rw [upm_ne (by omega)]; exact hz0 id h, hS1⟩ hv
  rw [v2, upd_oI h0, zws_set (m1 := upm m a i v) hlt (by rw [zent_int hka, upm_eq]) (fun j hj => upm_ne hj)] at hP1
  rw [hk.kde]
  exact hP1
theorem gc_aast (hk : zOc K kx cc nL own mc ms d) {a N : Nat} {i : Int} (c : cI i) (h0 : 0 ≤ i) (h1 : i < (N : Int)) (hka : kx a = (4, N)) (hlt : a < n) (hkv : kx (89 + 8 * i.toNat) = (0, 7)) (hlv : 89 + 8 * i.toNat < n) (hd : zdec cc pc (.aastore) 1 nx) (kk : GoW K (zHc K n cs (upm m a i 1)) cs sl Q lv st nx) : GoW K (zHc K n cs m) cs sl Q lv (.ref (kB K + (89 + 8 * i.toNat)) :: mI i :: .ref (kB K + a) :: st) pc := by
  obtain ⟨hd, rfl⟩ := hd
  intro H locs ls hH hv
  obtain ⟨hP, hsz, hz0, hS⟩ := hH
  have he := zws_get (kd := kd K) (N := n) (B := kB K) (aC := kaC K) (m := m) hlt
  have hev := zws_get (kd := kd K) (N := n) (B := kB K) (aC := kaC K) (m := m) hlv
  rw [hk.kde, zent_rf4 hka] at he
  rw [hk.kde, zent_obj hkv] at hev
  rw [hk.kde] at hP
  obtain ⟨v1, v2⟩ := vin_of c h0 h1
  refine va_astq hk.1.1 hk.1.2.1 hk.2.1 hP zwsD' hS a 3 (89 + 8 * i.toNat) 7 he rfl hev (r := (RX7, TX7, 12)) rfl v1 hd (fun H1 locs1 hP1 _ hS1 => ?_)
  refine kk H1 locs1 ls ⟨?_, hsz, fun id h => by rw [upm_ne (by omega)]; exact hz0 id h, hS1⟩ hv
  have e : va_up (fun j : Nat => if m a j = 0 then none else some (kB K + (89 + 8 * j))) i.toNat (some (kB K + (89 + 8 * i.toNat))) = fun j : Nat => if (sets (m a) i 1) j = 0 then none else some (kB K + (89 + 8 * j)) := by
    funext j
    unfold va_up
    by_cases e : j = i.toNat
    · subst e
      rw [if_pos rfl, show sets (m a) i 1 ((i.toNat : Nat) : Int) = 1 from if_pos (by omega)]
      rfl
    · rw [if_neg e, sets_ne (by omega)]
  rw [v2, e, zws_set (m1 := upm m a i 1) hlt (by rw [zent_rf4 hka, upm_eq]) (fun j hj => upm_ne hj)] at hP1
  rw [hk.kde]
  exact hP1
end CROWS
