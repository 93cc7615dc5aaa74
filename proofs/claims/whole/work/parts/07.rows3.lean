section ROWS3
variable {K : zK} {kx : Nat → Nat × Nat} {m : zM} {lv : List (Nat × Value)} {st : List Value} {pc nx tgt : Nat} {off : Int} {ρ : zR} {cc : ByteArray} {nL d : Nat} {ret : Option FieldType} {own : String} {β : Type} {o : β}
theorem zent_rf4 {B : Nat} {aC : Nat → ClassId} {id n : Nat} {f : Int → Int} {s : Nat × Nat} (h : s = (4, n)) : zent B aC id s f = .inl (aC 4, n, .inr (.inr (.inr (.inr (fun j => if f j = 0 then none else some (B + (89 + 8 * j))))))) := by subst h; rfl
theorem zent_rf5 {B : Nat} {aC : Nat → ClassId} {id n : Nat} {f : Int → Int} {s : Nat × Nat} (h : s = (5, n)) : zent B aC id s f = .inl (aC 5, n, .inr (.inr (.inr (.inr (fun j => if f j = 0 then none else some (B + (id + 1 + j))))))) := by subst h; rfl
theorem g_aald4 (hk : zOk K kx cc nL ret own d) {a n : Nat} {i : Int} {X : Option β} (c : cI i) (ha : kx a = (4, n)) (hm : zG kx m) (hd : zdec cc pc (.aaload) 1 nx) (h : gi n i X = some o) (kk : 0 ≤ i → i < (n : Int) → X = some o → GoAt K m lv (.ref (kB K + (89 + 8 * i.toNat)) :: st) nx ρ) : GoAt K m lv (mI i :: .ref (kB K + a) :: st) pc ρ := by
  obtain ⟨hd, rfl⟩ := hd
  unfold gi at h
  rcases zite h with ⟨⟨c1, c2⟩, h⟩ | ⟨_, h⟩
  · intro H locs ls hH hv
    have hlt : a < kN K := hk.lt ha (fun q => absurd (show _ = 9 from q) (by simp))
    have he := zws_get (kd := kd K) (N := kN K) (B := kB K) (aC := kaC K) (m := m) hlt
    rw [hk.kde, zent_rf4 ha] at he
    have hP := hH.1
    rw [hk.kde] at hP
    obtain ⟨v1, v2⟩ := vin_of c c1 c2
    refine va_aldq hk.1 hk.2.1 hk.2.2.2.2.2.1 hP a 3 he rfl v1 hd ?_
    have h1 : m a ((i.toNat : Nat) : Int) = 1 := zGS hm ha (if_pos ⟨by omega, by omega⟩)
    rw [v2, h1]
    exact kk c1 c2 h H locs ls hH hv
  · cases h
theorem g_aald5 (hk : zOk K kx cc nL ret own d) {a n : Nat} {i : Int} {X : Option β} (c : cI i) (ha : kx a = (5, n)) (hm : zG kx m) (hd : zdec cc pc (.aaload) 1 nx) (h : gi n i X = some o) (kk : 0 ≤ i → i < (n : Int) → X = some o → GoAt K m lv (.ref (kB K + (a + 1 + i.toNat)) :: st) nx ρ) : GoAt K m lv (mI i :: .ref (kB K + a) :: st) pc ρ := by
  obtain ⟨hd, rfl⟩ := hd
  unfold gi at h
  rcases zite h with ⟨⟨c1, c2⟩, h⟩ | ⟨_, h⟩
  · intro H locs ls hH hv
    have hlt : a < kN K := hk.lt ha (fun q => absurd (show _ = 9 from q) (by simp))
    have he := zws_get (kd := kd K) (N := kN K) (B := kB K) (aC := kaC K) (m := m) hlt
    rw [hk.kde, zent_rf5 ha] at he
    have hP := hH.1
    rw [hk.kde] at hP
    obtain ⟨v1, v2⟩ := vin_of c c1 c2
    have hlt2 : (Int32.ofInt i).toNatClampNeg < n := Nat.not_le.mp fun q => v1 (Or.inr q)
    have h1 : m a ((i.toNat : Nat) : Int) = 1 := zGS hm ha (if_pos ⟨by omega, by omega⟩)
    have hh := kk c1 c2 h H locs ls hH hv
    refine W.aald (v := .ref (kB K + (a + 1 + i.toNat))) (ty := .array .int) hk.1 hk.2.1 (hP a _ he) ((hk.2.2.2.2.2.1.2 4 _ rfl).1 n (fun j => va_rf (if m a j = 0 then none else some (kB K + (a + 1 + j))))) rfl (fun q => by cases q) (by show ¬ (_ ∨ (arrV _ _ _).slots.size ≤ _); rw [arrV_size]; exact v1) (by show (arrV _ _ _).slots[_]? = _; rw [arrV_read _ _ hlt2, v2]; show some (va_rf (if m a ((i.toNat : Nat) : Int) = 0 then none else some (kB K + (a + 1 + i.toNat)))) = _; rw [h1]; rfl) rfl rfl hd hh
  · cases h
theorem g_alen (hk : zOk K kx cc nL ret own d) {a n : Nat} {v : Int} (ha : kx a = (1, n)) (hv : (n : Int) = v) (hd : zdec cc pc (.arraylength) 1 nx) (kk : GoAt K m lv (mI v :: st) nx ρ) : GoAt K m lv (.ref (kB K + a) :: st) pc ρ := by
  obtain ⟨hd, rfl⟩ := hd
  intro H locs ls hH hv2
  have hlt : a < kN K := hk.lt ha (fun q => absurd (show _ = 9 from q) (by simp))
  have he := zws_get (kd := kd K) (N := kN K) (B := kB K) (aC := kaC K) (m := m) hlt
  rw [hk.kde, zent_int ha] at he
  have hP := hH.1
  rw [hk.kde] at hP
  exact va_alen hk.1 hk.2.1 hk.2.2.2.2.2.1 hP a 0 he rfl (v := Int32.ofInt v) (by rw [← hv]; exact (Int32.ofInt_eq_ofNat (n := n)).symm) hd (kk H locs ls hH hv2)
theorem zG_cpm {kd : Nat → Nat × Nat} {m : zM} {a b na nb : Nat} {i j n : Int} (h : zG kd m) (ha : kd a = (1, na)) (hb : kd b = (1, nb)) : zG kd (cpm m a i b j n) := by
  intro id q
  unfold cpm
  by_cases e : id = b
  · subst e
    rw [if_pos rfl]
    unfold cpy
    rw [hb]
    split
    · have := h a (i + (q - j)); rw [ha] at this; exact this
    · have := h id q; rw [hb] at this; exact this
  · rw [if_neg e]
    exact h id q
theorem g_acopy (hk : zOk K kx cc nL ret own d) {ix a na b nb : Nat} {i j n : Int} {F : zM → Option β} (hw : Cond.methodLink own ix arraycopyName ∈ TBL) (hw2 : Cond.native arraycopyName ∈ TBL) (hw3 : Cond.static arraycopyName ∈ TBL) (hw4 : Cond.initialized "java/lang/System" ∈ TBL) (ha : kx a = (1, na)) (hb : kx b = (1, nb)) (ci : cI i) (cj : cI j) (cn : cI n) (hdd : 1 ≤ d) (hsum : (st.map fun v => v.category).sum = 0) (hm : zG kx m) (hd : zdec cc pc (.invokestatic ix) 3 nx) (h : ac a na i b nb j n m F = some o) (kk : ∀ m1, zG kx m1 → F m1 = some o → GoAt K m1 lv st nx ρ) : GoAt K m lv (mI n :: mI j :: .ref (kB K + b) :: mI i :: .ref (kB K + a) :: st) pc ρ := by
  obtain ⟨hd, rfl⟩ := hd
  unfold ac at h
  rcases zite h with ⟨⟨h0, h1, h2, h3, h4⟩, h⟩ | ⟨_, h⟩
  · intro H locs ls hH hv
    have hla : a < kN K := hk.lt ha (fun q => absurd (show _ = 9 from q) (by simp))
    have hlb : b < kN K := hk.lt hb (fun q => absurd (show _ = 9 from q) (by simp))
    have hea := zws_get (kd := kd K) (N := kN K) (B := kB K) (aC := kaC K) (m := m) hla
    have heb := zws_get (kd := kd K) (N := kN K) (B := kB K) (aC := kaC K) (m := m) hlb
    rw [hk.kde, zent_int ha] at hea
    rw [hk.kde, zent_int hb] at heb
    have hP := hH.1
    rw [hk.kde] at hP
    have hg : zG kx (cpm m a i b j n) := zG_cpm hm ha hb
    have nn : ∀ x : Int, cI x → 0 ≤ x → ¬ Int32.ofInt x < 0 := fun x cx hx => by rw [show (0 : Int32) = Int32.ofInt 0 from rfl, ilt_v cx c0I]; omega
    have tn : ∀ x : Int, cI x → (Int32.ofInt x).toNatClampNeg = x.toNat := fun x cx => Int32.toNatClampNeg_ofInt_of_le cx.1 cx.2
    refine va_copyi hk.1 hk.2.1 (by rw [hv.1]) hk.2.2.2.1 (hk.2.2.2.2.1 _ hw) (hk.2.2.2.2.1 _ hw2) (hk.2.2.2.2.1 _ hw3) (hk.2.2.2.2.1 _ hw4) hk.2.2.2.2.2.1 hP zws_D hH.2.2 a b 0 0 hea heb rfl rfl rfl (nn i ci h1) (nn j cj h3) (nn n cn h0) (by rw [tn i ci, tn n cn]; omega) (by rw [tn j cj, tn n cn]; omega) (fun _ _ => rfl) ?_ ?_ hd (fun H1 locs1 hP1 _ hS1 => ?_)
    · rw [hk.2.2.2.2.2.2.2.2.1]; exact hdd
    · rw [hk.2.2.2.2.2.2.2.2.1, hsum]; show 0 + (nativeFrameWords "java/lang/System" "arraycopy" 5 + 11) ≤ 32 * d; have : nativeFrameWords "java/lang/System" "arraycopy" 5 ≤ 21 := by decide
      omega
    · refine kk _ hg h H1 locs1 ls ⟨?_, by rw [hk.kde]; exact hg, hS1⟩ hv
      rw [tn i ci, tn j cj, tn n cn] at hP1
      have e : va_cpy (fun q : Nat => Int32.ofInt (m a q)) (fun q : Nat => Int32.ofInt (m b q)) i.toNat j.toNat n.toNat = fun q : Nat => Int32.ofInt (cpy (m a) (m b) i j n q) := by
        funext q
        unfold va_cpy cpy
        by_cases e : j ≤ (q : Int) ∧ (q : Int) < j + n
        · rw [if_pos (by omega), if_pos e]
          show Int32.ofInt (m a ((i.toNat + (q - j.toNat) : Nat) : Int)) = _
          rw [show ((i.toNat + (q - j.toNat) : Nat) : Int) = i + ((q : Int) - j) by omega]
        · rw [if_neg (by omega), if_neg e]
      rw [e, zws_set (m1 := cpm m a i b j n) hlb (by rw [zent_int hb]; unfold cpm; rw [if_pos rfl]) (fun q hq => if_neg hq)] at hP1
      rw [hk.kde]
      exact hP1
  · cases h
/-! Math -/
theorem g_imax (hk : zOk K kx cc nL ret own d) {ix : Nat} {x y : Int} (cx : cI x) (cy : cI y) (hw : Cond.methodLink own ix Lib.Math.max.name ∈ TBL) (hw2 : Cond.static Lib.Math.max.name ∈ TBL) (hw3 : Cond.initialized "java/lang/Math" ∈ TBL) (hw4 : Cond.code Lib.Math.max.name Lib.Math.max.code 2 (some .int) ∈ TBL) (hdd : 1 ≤ d) (hsum : (st.map fun v => v.category).sum ≤ 8) (hd : zdec cc pc (.invokestatic ix) 3 nx) (kk : GoAt K m lv (mI (max x y) :: st) nx ρ) : GoAt K m lv (mI y :: mI x :: st) pc ρ := by
  obtain ⟨hd, rfl⟩ := hd
  intro H locs ls hH hv
  refine va_mmax hk.1 hk.2.1 (by rw [hv.1]) hk.2.2.2.1 (hk.2.2.2.2.1 _ hw) (hk.2.2.2.2.1 _ hw2) (hk.2.2.2.2.1 _ hw3) (hk.2.2.2.2.1 _ hw4) (by rw [hk.2.2.2.2.2.2.2.2.1]; exact hdd) (by rw [hk.2.2.2.2.2.2.2.2.1]; show _ + 13 ≤ 32 * d; omega) (Nat.zero_le _) (Nat.zero_le _) hd ?_
  have e : (if Int32.ofInt x < Int32.ofInt y then Int32.ofInt y else Int32.ofInt x) = Int32.ofInt (max x y) := by
    by_cases h : x < y
    · rw [if_pos ((ilt_v cx cy).mpr h), show max x y = y by omega]
    · rw [if_neg (fun q => h ((ilt_v cx cy).mp q)), show max x y = x by omega]
  rw [e]
  exact kk H locs ls hH hv
theorem g_imin (hk : zOk K kx cc nL ret own d) {ix : Nat} {x y : Int} (cx : cI x) (cy : cI y) (hw : Cond.methodLink own ix Lib.Math.min.name ∈ TBL) (hw2 : Cond.static Lib.Math.min.name ∈ TBL) (hw3 : Cond.initialized "java/lang/Math" ∈ TBL) (hw4 : Cond.code Lib.Math.min.name Lib.Math.min.code 2 (some .int) ∈ TBL) (hdd : 1 ≤ d) (hsum : (st.map fun v => v.category).sum ≤ 8) (hd : zdec cc pc (.invokestatic ix) 3 nx) (kk : GoAt K m lv (mI (min x y) :: st) nx ρ) : GoAt K m lv (mI y :: mI x :: st) pc ρ := by
  obtain ⟨hd, rfl⟩ := hd
  intro H locs ls hH hv
  refine va_mmin hk.1 hk.2.1 (by rw [hv.1]) hk.2.2.2.1 (hk.2.2.2.2.1 _ hw) (hk.2.2.2.2.1 _ hw2) (hk.2.2.2.2.1 _ hw3) (hk.2.2.2.2.1 _ hw4) (by rw [hk.2.2.2.2.2.2.2.2.1]; exact hdd) (by rw [hk.2.2.2.2.2.2.2.2.1]; show _ + 13 ≤ 32 * d; omega) (Nat.zero_le _) (Nat.zero_le _) hd ?_
  have h9 := kk H locs ls hH hv
  by_cases h : x < y
  · rw [show min x y = x by omega] at h9
    first
      | (rw [if_pos ((ilt_v cx cy).mpr h)]; exact h9)
      | (rw [if_neg (fun q => absurd ((ilt_v cy cx).mp q) (by omega))]; exact h9)
      | (rw [if_pos ((ile_v cx cy).mpr (by omega))]; exact h9)
  · by_cases h2 : x = y
    · subst h2
      rw [show min x x = x by omega] at h9
      have e : ∀ (c : Prop) [Decidable c], (if c then Int32.ofInt x else Int32.ofInt x) = Int32.ofInt x := fun c _ => by split <;> rfl
      rw [e]; exact h9
    · rw [show min x y = y by omega] at h9
      first
        | (rw [if_neg (fun q => h ((ilt_v cx cy).mp q))]; exact h9)
        | (rw [if_pos ((ilt_v cy cx).mpr (by omega))]; exact h9)
        | (rw [if_neg (fun q => absurd ((ile_v cx cy).mp q) (by omega))]; exact h9)
theorem g_iabs (hk : zOk K kx cc nL ret own d) {ix : Nat} {x : Int} (cx : cI x) (hw : Cond.methodLink own ix Lib.Math.abs.name ∈ TBL) (hw2 : Cond.static Lib.Math.abs.name ∈ TBL) (hw3 : Cond.initialized "java/lang/Math" ∈ TBL) (hw4 : Cond.code Lib.Math.abs.name Lib.Math.abs.code 1 (some .int) ∈ TBL) (hdd : 1 ≤ d) (hsum : (st.map fun v => v.category).sum ≤ 8) (hd : zdec cc pc (.invokestatic ix) 3 nx) (kk : GoAt K m lv (mI (if 0 ≤ x then x else wI (0 - x)) :: st) nx ρ) : GoAt K m lv (mI x :: st) pc ρ := by
  obtain ⟨hd, rfl⟩ := hd
  intro H locs ls hH hv
  refine va_mabs hk.1 hk.2.1 (by rw [hv.1]) hk.2.2.2.1 (hk.2.2.2.2.1 _ hw) (hk.2.2.2.2.1 _ hw2) (hk.2.2.2.2.1 _ hw3) (hk.2.2.2.2.1 _ hw4) (by rw [hk.2.2.2.2.2.2.2.2.1]; exact hdd) (by rw [hk.2.2.2.2.2.2.2.2.1]; show _ + 13 ≤ 32 * d; omega) (Nat.zero_le _) (Nat.zero_le _) hd ?_
  have e : (if 0 ≤ Int32.ofInt x then Int32.ofInt x else 0 - Int32.ofInt x) = Int32.ofInt (if 0 ≤ x then x else wI (0 - x)) := by
    rw [show (0 : Int32) = Int32.ofInt 0 from rfl]
    by_cases h : 0 ≤ x
    · rw [if_pos ((ile_v c0I cx).mpr h), if_pos h]
    · rw [if_neg (fun q => h ((ile_v c0I cx).mp q)), if_neg h, ← isub_v]
  rw [e]
  exact kk H locs ls hH hv
theorem g_lmax (hk : zOk K kx cc nL ret own d) {ix : Nat} {x y : Int} (cx : cL x) (cy : cL y) (hw : Cond.methodLink own ix Lib.MathLoose.max_long.x ∈ TBL) (hw2 : Cond.static Lib.MathLoose.max_long.x ∈ TBL) (hw3 : Cond.initialized "java/lang/Math" ∈ TBL) (hw4 : Cond.code Lib.MathLoose.max_long.x Lib.MathLoose.max_long.code 4 (some .long) ∈ TBL) (hdd : 1 ≤ d) (hsum : (st.map fun v => v.category).sum ≤ 8) (hd : zdec cc pc (.invokestatic ix) 3 nx) (kk : GoAt K m lv (mL (max x y) :: st) nx ρ) : GoAt K m lv (mL y :: mL x :: st) pc ρ := by
  obtain ⟨hd, rfl⟩ := hd
  intro H locs ls hH hv
  refine va_mmax_long hk.1 hk.2.1 (by rw [hv.1]) hk.2.2.2.1 (hk.2.2.2.2.1 _ hw) (hk.2.2.2.2.1 _ hw2) (hk.2.2.2.2.1 _ hw3) (hk.2.2.2.2.1 _ hw4) (by rw [hk.2.2.2.2.2.2.2.2.1]; exact hdd) (by rw [hk.2.2.2.2.2.2.2.2.1]; show _ + 15 ≤ 32 * d; omega) (Nat.zero_le _) (Nat.zero_le _) hd ?_
  have h9 := kk H locs ls hH hv
  by_cases h : y < x
  · rw [show max x y = x by omega] at h9
    rw [if_pos ((llt_v cy cx).mpr h)]; exact h9
  · rw [show max x y = y by omega] at h9
    rw [if_neg (fun q => h ((llt_v cy cx).mp q))]; exact h9
theorem g_lmin (hk : zOk K kx cc nL ret own d) {ix : Nat} {x y : Int} (cx : cL x) (cy : cL y) (hw : Cond.methodLink own ix Lib.MathLoose.min_long.x ∈ TBL) (hw2 : Cond.static Lib.MathLoose.min_long.x ∈ TBL) (hw3 : Cond.initialized "java/lang/Math" ∈ TBL) (hw4 : Cond.code Lib.MathLoose.min_long.x Lib.MathLoose.min_long.code 4 (some .long) ∈ TBL) (hdd : 1 ≤ d) (hsum : (st.map fun v => v.category).sum ≤ 8) (hd : zdec cc pc (.invokestatic ix) 3 nx) (kk : GoAt K m lv (mL (min x y) :: st) nx ρ) : GoAt K m lv (mL y :: mL x :: st) pc ρ := by
  obtain ⟨hd, rfl⟩ := hd
  intro H locs ls hH hv
  refine va_mmin_long hk.1 hk.2.1 (by rw [hv.1]) hk.2.2.2.1 (hk.2.2.2.2.1 _ hw) (hk.2.2.2.2.1 _ hw2) (hk.2.2.2.2.1 _ hw3) (hk.2.2.2.2.1 _ hw4) (by rw [hk.2.2.2.2.2.2.2.2.1]; exact hdd) (by rw [hk.2.2.2.2.2.2.2.2.1]; show _ + 15 ≤ 32 * d; omega) (Nat.zero_le _) (Nat.zero_le _) hd ?_
  have h9 := kk H locs ls hH hv
  by_cases h : x < y
  · rw [show min x y = x by omega] at h9
    first
      | (rw [if_pos ((llt_v cx cy).mpr h)]; exact h9)
      | (rw [if_neg (fun q => absurd ((llt_v cy cx).mp q) (by omega))]; exact h9)
  · by_cases h2 : x = y
    · subst h2
      rw [show min x x = x by omega] at h9
      have e : ∀ (c : Prop) [Decidable c], (if c then Int64.ofInt x else Int64.ofInt x) = Int64.ofInt x := fun c _ => by split <;> rfl
      rw [e]; exact h9
    · rw [show min x y = y by omega] at h9
      first
        | (rw [if_neg (fun q => h ((llt_v cx cy).mp q))]; exact h9)
        | (rw [if_pos ((llt_v cy cx).mpr (by omega))]; exact h9)
/-! calls -/
theorem z_run {p : Program} {l : Launch} {e : Env} {R : Room} {s : State} {mm : MethodId} {args : Array Value} {below : List Frame} {meth : Method} {c : Code} {H : Heap} {locs : List Loc} {Q : State → Prop} {ls : Array Slot} {rest st0 : List Value} {a : Array Value} {D : va_G} {aC : Nat → ClassId} {B N : Nat} {kd : Nat → Nat × Nat} {ρ1 : zR}
    (hr : va_Run p l e R s mm args below meth c H locs 0 0 0 0 (F0 mm pc ls st0) rest (zPost D aC B kd N ρ1 a) (zA N B)) (hS : va_S (zA N B) s.heap H locs)
    (kk : ∀ (H1 : Heap) (locs1 : List Loc), va_P D vwCl (zws kd N B aC ρ1.2.2) H1 → zG kd ρ1.2.2 → zok ρ1.1 ρ1.2.1 → va_S (zA N B) s.heap H1 locs1 → W p l e R s mm args below meth c H1 locs1 0 0 Q (F0 mm (pc + 3) ls ((zrv ρ1).toList ++ rest))) : W p l e R s mm args below meth c H locs 0 0 Q (F0 mm pc ls st0) := by
  intro T hT X
  obtain ⟨v, st₀, t, T', L, h0, X', hL, e1, e2, ⟨hv, hP, hKt, hG, hz, hF1, hF2⟩, sts⟩ := hr T hT X
  cases hv
  rw [h0] at hF1 hF2
  obtain ⟨t2, a1, b1⟩ := kk T'.heap (locs ++ L) (by rw [e1]; exact hP) hG hz ⟨Nat.le_trans hS.1 (by rw [e1]; exact hF1), fun q h1 h2 => by rw [e1, hF2 q (Nat.lt_of_lt_of_le h1 hS.1) h2]; exact hS.2.1 q h1 h2, fun q hq => by
      rcases List.mem_append.mp hq with h | h
      · exact hS.2.2 q h
      · exact hL q h⟩ T' rfl X'
  exact ⟨t2, sts t2 a1, b1⟩
theorem z_blind {As : List Value} {D : va_G} {aC : Nat → ClassId} {B N : Nat} {kd : Nat → Nat × Nat} {m : zM} : FrameBlind (va_Pc As (fun U => va_P D vwCl (zws kd N B aC m) U.heap ∧ va_K D vwCl (ztys aC) U ∧ zNw U)) := fun a U g mk q => by
  obtain ⟨q0, qP, qK, qN⟩ := q
  exact ⟨q0, qP, va_K.moved (u := U) (U := U.calling g mk a) (Vm.Alike.refl U.vm) qK, qN.same rfl⟩
theorem z_callS (hk : zOk K kx cc nL ret own d) {y : MethodName} {cy : ByteArray} {ml dy n ix : Nat} {ry : Option FieldType} {As : List Value} {ρ1 : zR} {st0 : List Value} (hf : zMf y cy ml ry n) (hw : Cond.methodLink own ix y ∈ TBL) (hw2 : Cond.static y ∈ TBL) (hdd : dy < d) (hn : As.length = n) (hsum : (st.map fun v => v.category).sum ≤ 8) (hst : As.reverse ++ st = st0) (hd : zdec cc pc (.invokestatic ix) 3 nx) (hM : zMet (kL K) y cy ml ry dy (kD K) (kaC K) (kB K) kx (kN K) As m ρ1) (kk : zG kx ρ1.2.2 → zok ρ1.1 ρ1.2.1 → GoAt K ρ1.2.2 lv ((zrv ρ1).toList ++ st) nx ρ) : GoAt K m lv st0 pc ρ := by
  obtain ⟨hd, rfl⟩ := hd
  obtain ⟨hi, hc, hdy, hl13, -⟩ := hf
  intro H locs ls hH hv
  have hRe : kR K = zRm d := hk.2.2.2.2.2.2.2.2.1
  have hts := hk.2.2.2.2.1
  have hP := hH.1
  rw [hk.kde] at hP
  have cw := callB_of (R := kR K) (own := own) (index := ix) (mc := 0) (ms := 0) (rm := zRm dy) n hts (goodInTBL hc) rfl rfl rfl (hts _ hi) (hts _ hw) hdy ⟨by rw [hRe]; exact hdd, by rw [hRe]; show 8 + (ml + 11) + 32 * dy ≤ 32 * d; omega⟩
  refine z_run (va_runS (g := F0 (kMm K) pc ls st0) (As := As) (rest := st) ⟨hk.1, hk.2.1, rfl, hk.2.2.2.1, hts⟩ hM ⟨cw, hts _ hw2⟩ ⟨z_blind, fun U hU hW => ⟨rfl, by rw [hU]; exact hP, va_K.moved hW.alike hk.2.2.2.2.2.1, hk.2.2.2.2.2.2.2.2.2.2.2.warm hW⟩⟩ rfl hn hv.1 hst.symm (lv_room hsum) hd ⟨Nat.zero_le _, Nat.zero_le _⟩) hH.2.2 (fun H1 locs1 hP1 hG1 hz1 hS1 => ?_)
  exact kk hG1 hz1 H1 locs1 ls ⟨by rw [hk.kde]; exact hP1, by rw [hk.kde]; exact hG1, hS1⟩ hv
theorem z_callN (hk : zOk K kx cc nL ret own d) {y : MethodName} {cy : ByteArray} {ml dy n ix : Nat} {host : String} {ry : Option FieldType} {As : List Value} {ρ1 : zR} {st0 : List Value} (hf : zMf y cy ml ry n) (hw : (own, ix, y, host) ∈ NSTL) (hw2 : Cond.static y ∈ TBL) (hdd : dy < d) (hn : As.length = n) (hsum : (st.map fun v => v.category).sum ≤ 8) (hst : As.reverse ++ st = st0) (hd : zdec cc pc (.invokestatic ix) 3 nx) (hM : zMet (kL K) y cy ml ry dy (kD K) (kaC K) (kB K) kx (kN K) As m ρ1) (kk : zG kx ρ1.2.2 → zok ρ1.1 ρ1.2.1 → GoAt K ρ1.2.2 lv ((zrv ρ1).toList ++ st) nx ρ) : GoAt K m lv st0 pc ρ := by
  obtain ⟨hd, rfl⟩ := hd
  obtain ⟨hi, hc, hdy, hl13, -⟩ := hf
  intro H locs ls hH hv
  have hRe : kR K = zRm d := hk.2.2.2.2.2.2.2.2.1
  have hts := hk.2.2.2.2.1
  have hP := hH.1
  rw [hk.kde] at hP
  have cw := va_cnB (R := kR K) (own := own) (host := host) (index := ix) (mc := 0) (ms := 0) (rm := zRm dy) n hts (goodInTBL hc) rfl rfl rfl (hk.2.2.2.2.2.2.2.2.2.2.2 _ hw) (hts _ hi) hdy ⟨by rw [hRe]; exact hdd, by rw [hRe]; show 8 + (ml + 11) + 32 * dy ≤ 32 * d; omega⟩
  refine z_run (va_runSN (g := F0 (kMm K) pc ls st0) (As := As) (rest := st) ⟨hk.1, hk.2.1, rfl, hk.2.2.2.1, hts⟩ hM ⟨cw, hts _ hw2, trivial⟩ ⟨z_blind, fun U hU hW => ⟨rfl, by rw [hU]; exact hP, va_K.moved hW.alike hk.2.2.2.2.2.1, hk.2.2.2.2.2.2.2.2.2.2.2.warm hW⟩⟩ rfl hn hv.1 hst.symm (lv_room hsum) hd ⟨Nat.zero_le _, Nat.zero_le _⟩) hH.2.2 (fun H1 locs1 hP1 hG1 hz1 hS1 => ?_)
  exact kk hG1 hz1 H1 locs1 ls ⟨by rw [hk.kde]; exact hP1, by rw [hk.kde]; exact hG1, hS1⟩ hv
theorem z_callV (hk : zOk K kx cc nL ret own d) {y : MethodName} {cy : ByteArray} {ml dy n ix a ci : Nat} {ry : Option FieldType} {As : List Value} {ρ1 : zR} {st0 : List Value} (hf : zMf y cy ml ry n) (hw : Cond.methodLink own ix y ∈ TBL) (hw2 : zMv ci y) (ha : kx a = (0, ci)) (hdd : dy < d) (hn : As.length = n) (hsum : (st.map fun v => v.category).sum ≤ 8) (hst : As.reverse ++ .ref (kB K + a) :: st = st0) (hd : zdec cc pc (.invokevirtual ix) 3 nx) (hM : zMet (kL K) y cy ml ry dy (kD K) (kaC K) (kB K) kx (kN K) (.ref (kB K + a) :: As) m ρ1) (kk : zG kx ρ1.2.2 → zok ρ1.1 ρ1.2.1 → GoAt K ρ1.2.2 lv ((zrv ρ1).toList ++ st) nx ρ) : GoAt K m lv st0 pc ρ := by
  obtain ⟨hd, rfl⟩ := hd
  obtain ⟨hi, hc, hdy, hl13, -⟩ := hf
  obtain ⟨hv1, hv2, T, hcl⟩ := hw2
  intro H locs ls hH hv
  have hRe : kR K = zRm d := hk.2.2.2.2.2.2.2.2.1
  have hts := hk.2.2.2.2.1
  have hP := hH.1
  rw [hk.kde] at hP
  have hlt : a < kN K := hk.lt ha (fun q => absurd (show _ = 9 from q) (by simp))
  have he := zws_get (kd := kd K) (N := kN K) (B := kB K) (aC := kaC K) (m := m) hlt
  rw [hk.kde, zent_obj ha] at he
  have cw := callB_of (R := kR K) (own := own) (index := ix) (mc := 0) (ms := 0) (rm := zRm dy) n hts (goodInTBL hc) rfl rfl rfl (hts _ hi) (hts _ hw) hdy ⟨by rw [hRe]; exact hdd, by rw [hRe]; show 8 + (ml + 11) + 32 * dy ≤ 32 * d; omega⟩
  refine z_run (va_runV (g := F0 (kMm K) pc ls st0) (As := As) (rest := st) (C := y.cls) ⟨hk.1, hk.2.1, rfl, hk.2.2.2.1, hts⟩ hM ⟨cw, hts _ hv1, hts _ hv2⟩ ⟨z_blind, va_recv hk.2.2.2.2.2.1 hP hcl he, fun U hU hW => ⟨rfl, by rw [hU]; exact hP, va_K.moved hW.alike hk.2.2.2.2.2.1, hk.2.2.2.2.2.2.2.2.2.2.2.warm hW⟩⟩ rfl hn hv.1 hst.symm (lv_room hsum) hd ⟨Nat.zero_le _, Nat.zero_le _⟩) hH.2.2 (fun H1 locs1 hP1 hG1 hz1 hS1 => ?_)
  exact kk hG1 hz1 H1 locs1 ls ⟨by rw [hk.kde]; exact hP1, by rw [hk.kde]; exact hG1, hS1⟩ hv
theorem g_callSi (hk : zOk K kx cc nL ret own d) {y : MethodName} {cy : ByteArray} {ml dy n ix : Nat} {ry : Option FieldType} {As : List Value} {m1 : zM} {r : Int} {st0 : List Value} (hf : zMf y cy ml ry n) (hw : Cond.methodLink own ix y ∈ TBL) (hw2 : Cond.static y ∈ TBL) (hdd : dy < d) (hn : As.length = n) (hsum : (st.map fun v => v.category).sum ≤ 8) (hst : As.reverse ++ st = st0) (hd : zdec cc pc (.invokestatic ix) 3 nx) (hM : zMet (kL K) y cy ml ry dy (kD K) (kaC K) (kB K) kx (kN K) As m (0, r, m1)) (kk : zG kx m1 → cI r → GoAt K m1 lv (mI r :: st) nx ρ) : GoAt K m lv st0 pc ρ := z_callS hk hf hw hw2 hdd hn hsum hst hd hM (fun g z => kk g z)
theorem g_callSz (hk : zOk K kx cc nL ret own d) {y : MethodName} {cy : ByteArray} {ml dy n ix : Nat} {ry : Option FieldType} {As : List Value} {m1 : zM} {r : Int} {st0 : List Value} (hf : zMf y cy ml ry n) (hw : Cond.methodLink own ix y ∈ TBL) (hw2 : Cond.static y ∈ TBL) (hdd : dy < d) (hn : As.length = n) (hsum : (st.map fun v => v.category).sum ≤ 8) (hst : As.reverse ++ st = st0) (hd : zdec cc pc (.invokestatic ix) 3 nx) (hM : zMet (kL K) y cy ml ry dy (kD K) (kaC K) (kB K) kx (kN K) As m (4, r, m1)) (kk : zG kx m1 → zok 4 r → GoAt K m1 lv (mI r :: st) nx ρ) : GoAt K m lv st0 pc ρ := z_callS hk hf hw hw2 hdd hn hsum hst hd hM (fun g z => kk g z)
theorem g_callSl (hk : zOk K kx cc nL ret own d) {y : MethodName} {cy : ByteArray} {ml dy n ix : Nat} {ry : Option FieldType} {As : List Value} {m1 : zM} {r : Int} {st0 : List Value} (hf : zMf y cy ml ry n) (hw : Cond.methodLink own ix y ∈ TBL) (hw2 : Cond.static y ∈ TBL) (hdd : dy < d) (hn : As.length = n) (hsum : (st.map fun v => v.category).sum ≤ 8) (hst : As.reverse ++ st = st0) (hd : zdec cc pc (.invokestatic ix) 3 nx) (hM : zMet (kL K) y cy ml ry dy (kD K) (kaC K) (kB K) kx (kN K) As m (1, r, m1)) (kk : zG kx m1 → cL r → GoAt K m1 lv (mL r :: st) nx ρ) : GoAt K m lv st0 pc ρ := z_callS hk hf hw hw2 hdd hn hsum hst hd hM (fun g z => kk g z)
theorem g_callSv (hk : zOk K kx cc nL ret own d) {y : MethodName} {cy : ByteArray} {ml dy n ix : Nat} {ry : Option FieldType} {As : List Value} {m1 : zM} {st0 : List Value} (hf : zMf y cy ml ry n) (hw : Cond.methodLink own ix y ∈ TBL) (hw2 : Cond.static y ∈ TBL) (hdd : dy < d) (hn : As.length = n) (hsum : (st.map fun v => v.category).sum ≤ 8) (hst : As.reverse ++ st = st0) (hd : zdec cc pc (.invokestatic ix) 3 nx) (hM : zMet (kL K) y cy ml ry dy (kD K) (kaC K) (kB K) kx (kN K) As m (9, 0, m1)) (kk : zG kx m1 → GoAt K m1 lv (st) nx ρ) : GoAt K m lv st0 pc ρ := z_callS hk hf hw hw2 hdd hn hsum hst hd hM (fun g _ => kk g)
theorem g_callNi (hk : zOk K kx cc nL ret own d) {y : MethodName} {cy : ByteArray} {ml dy n ix : Nat} {ry : Option FieldType} {As : List Value} {m1 : zM} {r : Int} {st0 : List Value} (hf : zMf y cy ml ry n) {host : String} (hw : (own, ix, y, host) ∈ NSTL) (hw2 : Cond.static y ∈ TBL) (hdd : dy < d) (hn : As.length = n) (hsum : (st.map fun v => v.category).sum ≤ 8) (hst : As.reverse ++ st = st0) (hd : zdec cc pc (.invokestatic ix) 3 nx) (hM : zMet (kL K) y cy ml ry dy (kD K) (kaC K) (kB K) kx (kN K) As m (0, r, m1)) (kk : zG kx m1 → cI r → GoAt K m1 lv (mI r :: st) nx ρ) : GoAt K m lv st0 pc ρ := z_callN hk hf hw hw2 hdd hn hsum hst hd hM (fun g z => kk g z)
theorem g_callNz (hk : zOk K kx cc nL ret own d) {y : MethodName} {cy : ByteArray} {ml dy n ix : Nat} {ry : Option FieldType} {As : List Value} {m1 : zM} {r : Int} {st0 : List Value} (hf : zMf y cy ml ry n) {host : String} (hw : (own, ix, y, host) ∈ NSTL) (hw2 : Cond.static y ∈ TBL) (hdd : dy < d) (hn : As.length = n) (hsum : (st.map fun v => v.category).sum ≤ 8) (hst : As.reverse ++ st = st0) (hd : zdec cc pc (.invokestatic ix) 3 nx) (hM : zMet (kL K) y cy ml ry dy (kD K) (kaC K) (kB K) kx (kN K) As m (4, r, m1)) (kk : zG kx m1 → zok 4 r → GoAt K m1 lv (mI r :: st) nx ρ) : GoAt K m lv st0 pc ρ := z_callN hk hf hw hw2 hdd hn hsum hst hd hM (fun g z => kk g z)
theorem g_callNl (hk : zOk K kx cc nL ret own d) {y : MethodName} {cy : ByteArray} {ml dy n ix : Nat} {ry : Option FieldType} {As : List Value} {m1 : zM} {r : Int} {st0 : List Value} (hf : zMf y cy ml ry n) {host : String} (hw : (own, ix, y, host) ∈ NSTL) (hw2 : Cond.static y ∈ TBL) (hdd : dy < d) (hn : As.length = n) (hsum : (st.map fun v => v.category).sum ≤ 8) (hst : As.reverse ++ st = st0) (hd : zdec cc pc (.invokestatic ix) 3 nx) (hM : zMet (kL K) y cy ml ry dy (kD K) (kaC K) (kB K) kx (kN K) As m (1, r, m1)) (kk : zG kx m1 → cL r → GoAt K m1 lv (mL r :: st) nx ρ) : GoAt K m lv st0 pc ρ := z_callN hk hf hw hw2 hdd hn hsum hst hd hM (fun g z => kk g z)
theorem g_callNv (hk : zOk K kx cc nL ret own d) {y : MethodName} {cy : ByteArray} {ml dy n ix : Nat} {ry : Option FieldType} {As : List Value} {m1 : zM} {st0 : List Value} (hf : zMf y cy ml ry n) {host : String} (hw : (own, ix, y, host) ∈ NSTL) (hw2 : Cond.static y ∈ TBL) (hdd : dy < d) (hn : As.length = n) (hsum : (st.map fun v => v.category).sum ≤ 8) (hst : As.reverse ++ st = st0) (hd : zdec cc pc (.invokestatic ix) 3 nx) (hM : zMet (kL K) y cy ml ry dy (kD K) (kaC K) (kB K) kx (kN K) As m (9, 0, m1)) (kk : zG kx m1 → GoAt K m1 lv (st) nx ρ) : GoAt K m lv st0 pc ρ := z_callN hk hf hw hw2 hdd hn hsum hst hd hM (fun g _ => kk g)
theorem g_callVi (hk : zOk K kx cc nL ret own d) {y : MethodName} {cy : ByteArray} {ml dy n ix : Nat} {ry : Option FieldType} {As : List Value} {m1 : zM} {r : Int} {st0 : List Value} (hf : zMf y cy ml ry n) {a ci : Nat} (hw : Cond.methodLink own ix y ∈ TBL) (hw2 : zMv ci y) (ha : kx a = (0, ci)) (hdd : dy < d) (hn : As.length = n) (hsum : (st.map fun v => v.category).sum ≤ 8) (hst : As.reverse ++ .ref (kB K + a) :: st = st0) (hd : zdec cc pc (.invokevirtual ix) 3 nx) (hM : zMet (kL K) y cy ml ry dy (kD K) (kaC K) (kB K) kx (kN K) (.ref (kB K + a) :: As) m (0, r, m1)) (kk : zG kx m1 → cI r → GoAt K m1 lv (mI r :: st) nx ρ) : GoAt K m lv st0 pc ρ := z_callV hk hf hw hw2 ha hdd hn hsum hst hd hM (fun g z => kk g z)
theorem g_callVz (hk : zOk K kx cc nL ret own d) {y : MethodName} {cy : ByteArray} {ml dy n ix : Nat} {ry : Option FieldType} {As : List Value} {m1 : zM} {r : Int} {st0 : List Value} (hf : zMf y cy ml ry n) {a ci : Nat} (hw : Cond.methodLink own ix y ∈ TBL) (hw2 : zMv ci y) (ha : kx a = (0, ci)) (hdd : dy < d) (hn : As.length = n) (hsum : (st.map fun v => v.category).sum ≤ 8) (hst : As.reverse ++ .ref (kB K + a) :: st = st0) (hd : zdec cc pc (.invokevirtual ix) 3 nx) (hM : zMet (kL K) y cy ml ry dy (kD K) (kaC K) (kB K) kx (kN K) (.ref (kB K + a) :: As) m (4, r, m1)) (kk : zG kx m1 → zok 4 r → GoAt K m1 lv (mI r :: st) nx ρ) : GoAt K m lv st0 pc ρ := z_callV hk hf hw hw2 ha hdd hn hsum hst hd hM (fun g z => kk g z)
theorem g_callVl (hk : zOk K kx cc nL ret own d) {y : MethodName} {cy : ByteArray} {ml dy n ix : Nat} {ry : Option FieldType} {As : List Value} {m1 : zM} {r : Int} {st0 : List Value} (hf : zMf y cy ml ry n) {a ci : Nat} (hw : Cond.methodLink own ix y ∈ TBL) (hw2 : zMv ci y) (ha : kx a = (0, ci)) (hdd : dy < d) (hn : As.length = n) (hsum : (st.map fun v => v.category).sum ≤ 8) (hst : As.reverse ++ .ref (kB K + a) :: st = st0) (hd : zdec cc pc (.invokevirtual ix) 3 nx) (hM : zMet (kL K) y cy ml ry dy (kD K) (kaC K) (kB K) kx (kN K) (.ref (kB K + a) :: As) m (1, r, m1)) (kk : zG kx m1 → cL r → GoAt K m1 lv (mL r :: st) nx ρ) : GoAt K m lv st0 pc ρ := z_callV hk hf hw hw2 ha hdd hn hsum hst hd hM (fun g z => kk g z)
theorem g_callVv (hk : zOk K kx cc nL ret own d) {y : MethodName} {cy : ByteArray} {ml dy n ix : Nat} {ry : Option FieldType} {As : List Value} {m1 : zM} {st0 : List Value} (hf : zMf y cy ml ry n) {a ci : Nat} (hw : Cond.methodLink own ix y ∈ TBL) (hw2 : zMv ci y) (ha : kx a = (0, ci)) (hdd : dy < d) (hn : As.length = n) (hsum : (st.map fun v => v.category).sum ≤ 8) (hst : As.reverse ++ .ref (kB K + a) :: st = st0) (hd : zdec cc pc (.invokevirtual ix) 3 nx) (hM : zMet (kL K) y cy ml ry dy (kD K) (kaC K) (kB K) kx (kN K) (.ref (kB K + a) :: As) m (9, 0, m1)) (kk : zG kx m1 → GoAt K m1 lv (st) nx ρ) : GoAt K m lv st0 pc ρ := z_callV hk hf hw hw2 ha hdd hn hsum hst hd hM (fun g _ => kk g)
theorem g_let {x : Int} {F : Int → Option β} (cx : cI x) (h : lt x F = some o) (kk : ∀ v, cI v → F v = some o → GoAt K m lv (mI v :: st) pc ρ) : GoAt K m lv (mI x :: st) pc ρ := kk x cx h
theorem g_letz {x : Int} {F : Int → Option β} (cx : zok 4 x) (h : lt x F = some o) (kk : ∀ v, zok 4 v → F v = some o → GoAt K m lv (mI v :: st) pc ρ) : GoAt K m lv (mI x :: st) pc ρ := kk x cx h
theorem g_letl {x : Int} {F : Int → Option β} (cx : cL x) (h : lt x F = some o) (kk : ∀ v, cL v → F v = some o → GoAt K m lv (mL v :: st) pc ρ) : GoAt K m lv (mL x :: st) pc ρ := kk x cx h
theorem zOk.wd (hk : zOk K kx cc nL ret own d) : ∀ id, (kx id).1 ≠ 9 → id < kN K := hk.2.2.2.2.2.2.2.2.2.2.1
theorem g_nz {y : Int} {X : Option β} (h : nz y X = some o) : y ≠ 0 ∧ X = some o := by
  unfold nz at h
  rcases zite h with ⟨_, h⟩ | ⟨c, h⟩
  · cases h
  · exact ⟨c, h⟩
theorem g_ldef (hk : zOk K kx cc nL ret own d) {x dflt : Int} {ps : Array (Int × Int)} {len : Nat} (cx : cI x) (hd : decode cc pc = .ok (.lookupswitch dflt ps, len)) (hp : (ps.toList.zip (ps.toList.drop 1)).all (fun (a, next) => a.1 < next.1) = true) (ho : Op.lookupswitch.offset ps.toList dflt x = dflt) (ht : (pc : Int) + dflt = (tgt : Int)) (kk : GoAt K m lv st tgt ρ) : GoAt K m lv (mI x :: st) pc ρ := by
  intro H locs ls hH hv
  exact lv_lookup hk.1 hk.2.1 hd hp (by rw [tI_oI cx]; exact ho) ht (kk H locs ls hH hv)
end ROWS3
theorem Met.ofWF {l : Launch} {y : MethodName} {ws ws' : List Cond} {rm : Room} {Pc : Array Value → State → Prop} {Qc : Array Value → State → Outcome → State → Prop} {mc ms : Nat} {free : Addr → Prop} {cc : ByteArray} {maxL : Nat} {ret : Option FieldType}
    (hy : plainFor y = true) (hw : ws = Cond.code y cc maxL ret :: ws')
    (body : ∀ p e s m args below meth c s₁, BodyLoose p l y (headSpec ws rm) cc maxL ret e s m args below meth c s₁ → c.maxLocals = maxL → Pc args s →
      W p l e (headSpec ws rm).room s m args below meth c s.heap [] 0 0 (MQ below Qc args s mc ms free) (entryFrame m args maxL)) : Met l y ws rm Pc Qc mc ms free := by
  refine MetFree.of_bodySF (code := cc) (maxLocals := maxL) (ret := ret) hy ?_ ?_
  · intro args s m h hn
    obtain ⟨meth, c, h1, h2, h3, h4, h5, h6, -, -⟩ := Cond.code_spec hn (atoms_spec (ws := ws) h _ (by rw [hw]; exact List.mem_cons_self))
    exact ⟨meth, c, h1, h2, h3, h4, h5, h6⟩
  · intro p e s m args below meth c s₁ B hml hP _
    have hh0 : s₁.heap = s.heap := by rw [B.state]; rfl
    obtain ⟨t, a1, o, b1, b2, b3⟩ := body p e s m args below meth c s₁ B hml hP s₁ hh0 (Stand.of_body B)
    exact ⟨t, o, a1, b1, b2, ⟨b3.1, b3.2⟩⟩
/-- a method's contract out of its walk from the entry -/
theorem zMet.of {l : Launch} {y : MethodName} {cc : ByteArray} {maxL : Nat} {ret : Option FieldType} {d n : Nat} {D : va_G} {aC : Nat → ClassId} {B N : Nat} {kx : Nat → Nat × Nat} {As : List Value} {m : zM} {ρ : zR} (hf : zMf y cc maxL ret n) (hwd : ∀ id, (kx id).1 ≠ 9 → id < N) (hm : zG kx m) (hlen : (lg_sl As).length ≤ maxL)
    (body : ∀ K : zK, kL K = l → kD K = D → kaC K = aC → kB K = B → kN K = N → zOk K kx cc maxL ret y.cls d → GoAt K m (lv_args 0 As) [] 0 ρ) : zMet l y cc maxL ret d D aC B kx N As m ρ := by
  refine Met.ofWF (cc := cc) (maxL := maxL) (ret := ret) hf.2.2.2.2 rfl ?_
  intro p e s mm args below meth c s₁ Bd hml hv
  obtain ⟨rfl, hP, hKs, hNw⟩ := hv
  have hts := atoms_spec (ws := Cond.code y cc maxL ret :: TBL) Bd.pre
  let K : zK := ((p, l, e, zRm d, s), (mm, As.toArray, below, meth, c), (D, aC, B), kx, N)
  have ok : zOk K kx cc maxL ret y.cls d := ⟨Bd.exec, Bd.bytes, hml, findClass_of_methodNamed Bd.named, fun w hw => hts w (List.mem_cons_of_mem _ hw), hKs, Bd.returns, Bd.notSynchronized, rfl, rfl, hwd, hNw⟩
  have G := body K rfl rfl rfl rfl rfl ok
  rw [lg_entry_eq]
  exact G s.heap [] _ ⟨hP, hm, va_S.rf⟩ (by show lv_has _ c.maxLocals _; rw [hml]; exact lv_entry As hlen)
theorem cIk {x : Int} (h : decide (-2147483648 ≤ x ∧ x < 2147483648) = true) : cI x := show _ ∧ _ from of_decide_eq_true h
theorem cLk {x : Int} (h : decide (-9223372036854775808 ≤ x ∧ x < 9223372036854775808) = true) : cL x := show _ ∧ _ from of_decide_eq_true h
theorem cI_max {x y : Int} (hx : cI x) (hy : cI y) : cI (max x y) := by unfold cI at *; omega
theorem cI_min {x y : Int} (hx : cI x) (hy : cI y) : cI (min x y) := by unfold cI at *; omega
theorem cL_max {x y : Int} (hx : cL x) (hy : cL y) : cL (max x y) := by unfold cL at *; omega
theorem cL_min {x y : Int} (hx : cL x) (hy : cL y) : cL (min x y) := by unfold cL at *; omega
theorem cI_abs {x : Int} (hx : cI x) : cI (if 0 ≤ x then x else wI (0 - x)) := by
  split
  · exact hx
  · exact wI_c _
theorem z0 : zok 4 0 := Or.inl rfl
theorem z1 : zok 4 1 := Or.inr rfl
theorem kdC_past {i : Int} (h0 : 0 ≤ i) (h1 : i < ((20 : Nat) : Int)) : kdC (89 + 8 * i.toNat) = (0, 7) := by
  have hh : ∀ j, j < 20 → kdC (89 + 8 * j) = (0, 7) := by decide +kernel
  exact hh i.toNat (by omega)
theorem kdC_most {i : Int} (h0 : 0 ≤ i) (h1 : i < ((7 : Nat) : Int)) : kdC (32 + 1 + i.toNat) = (1, 256) := by
  have hh : ∀ j, j < 7 → kdC (32 + 1 + j) = (1, 256) := by decide +kernel
  exact hh i.toNat (by omega)
