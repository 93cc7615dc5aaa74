/-- all that is written is a byte -/
def byL (L : List Int) : Prop := ∀ x ∈ L, 0 ≤ x ∧ x ≤ 255
theorem byL.app {L M : List Int} (h : byL L) (h2 : byL M) : byL (L ++ M) := fun x hx => by
  rcases List.mem_append.mp hx with q | q
  · exact h x q
  · exact h2 x q
theorem byL.at {L : List Int} (h : byL L) : ∀ j, j < L.length → 0 ≤ L.getD j 0 ∧ L.getD j 0 ≤ 255 := by
  intro j hj
  rw [List.getD_eq_getElem?_getD, List.getElem?_eq_getElem hj]
  exact h _ (List.getElem_mem hj)
theorem byL.two {a b : Int} (ha : 0 ≤ a ∧ a ≤ 255) (hb : 0 ≤ b ∧ b ≤ 255) : byL [a, b] := fun x hx => by
  simp only [List.mem_cons, List.not_mem_nil, or_false] at hx
  rcases hx with e | e <;> subst e <;> assumption
theorem byL.three {a b c : Int} (ha : 0 ≤ a ∧ a ≤ 255) (hb : 0 ≤ b ∧ b ≤ 255) (hc : 0 ≤ c ∧ c ≤ 255) : byL [a, b, c] := fun x hx => by
  simp only [List.mem_cons, List.not_mem_nil, or_false] at hx
  rcases hx with e | e | e <;> subst e <;> assumption
theorem byL.five {a b c d e : Int} (ha : 0 ≤ a ∧ a ≤ 255) (hb : 0 ≤ b ∧ b ≤ 255) (hc : 0 ≤ c ∧ c ≤ 255) (hd : 0 ≤ d ∧ d ≤ 255) (he : 0 ≤ e ∧ e ≤ 255) : byL [a, b, c, d, e] := fun x hx => by
  simp only [List.mem_cons, List.not_mem_nil, or_false] at hx
  rcases hx with q | q | q | q | q <;> subst q <;> assumption
theorem imG_by {Z S mM : zM} {bk v : Int} (h : GG Z S mM bk v) : ∀ n : Nat, (n : Int) ≤ Z 0 1 → byL (imG S n)
  | 0, _ => by
    have dd := h.dy
    have hh := h.hr
    have ff := h.2.1.2.1
    exact byL.five (by omega) (by omega) (by omega) (by omega) (by omega)
  | n + 1, hn => by
    have n1 := h.nb
    refine (imG_by h n (by omega)).app ?_
    have a0 := h.tr (i := (n : Int) * 3 + 0) (by omega) (by omega)
    have a1 := h.tr (i := (n : Int) * 3 + 1) (by omega) (by omega)
    have a2 := h.tr (i := (n : Int) * 3 + 2) (by omega) (by omega)
    have a3 := h.kb (i := (n : Int)) (by omega) (by omega)
    have a4 := h.sb (i := (n : Int)) (by omega) (by omega)
    exact byL.five (by omega) (by omega) (by omega) (by omega) (by omega)
theorem pP2_by {Z S mM : zM} {bk v b : Int} (h : GG Z S mM bk v) (b0 : 0 ≤ b) (b1 : b < Z 0 0) : ∀ n : Nat, (n : Int) ≤ Z 0 1 → byL (pP2 S b n)
  | 0, _ => by
    have a0 := h.ta (i := b * 3 + 0) (by omega) (by omega)
    have a1 := h.ta (i := b * 3 + 1) (by omega) (by omega)
    have a2 := h.ta (i := b * 3 + 2) (by omega) (by omega)
    exact byL.three (by omega) (by omega) (by omega)
  | n + 1, hn => by
    refine (pP2_by h b0 b1 n (by omega)).app ?_
    have a0 := h.sa b0 b1 (j := (n : Int)) (by omega) (by omega)
    have a1 := h.st b0 b1 (j := (n : Int)) (by omega) (by omega)
    exact byL.two (by omega) (by omega)
theorem imB_by {Z S mM : zM} {bk v : Int} (h : GG Z S mM bk v) : ∀ n : Nat, (n : Int) ≤ Z 0 0 → byL (imB Z S n)
  | 0, _ => by
    have n2 := h.ng
    exact imG_by h _ (by omega)
  | n + 1, hn => by
    have n2 := h.ng
    exact (imB_by h n (by omega)).app (pP2_by h (by omega) (by omega) _ (by omega))
theorem IMw.gg {Z S m0 m : zM} {bk : Int} {L : List Int} (h : GG Z S m0 bk 0) (hw : IMw m0 m L) : GG Z S m bk 0 := by
  obtain ⟨h1, h2, h3, h4⟩ := hw
  obtain ⟨g1, g2, g3, g4⟩ := h
  exact ⟨g1.same (fun a a1 a2 => h1 a (by omega) (by omega)), g2.same g1.1.2.2 g1.2.1.2.2 (fun a a1 a2 i _ _ => by rw [h1 a (by omega) (by omega)]), by rw [h2 13 (by decide)]; exact g3, g4⟩
theorem three_L {Z S m0 m : zM} {bk i : Int} {LL : List Int} (k : Int → zM → Option (Int × zM)) (h : GG Z S m0 bk 0) (hI : IMw m0 m LL) (hl : LL.length + 3 ≤ 160) (q0 : 0 ≤ i) (q1 : i < Z 0 1) : ∃ m', IMw m0 m' (LL ++ [S 1 (i * 3 + 0), S 1 (i * 3 + 1), S 1 (i * 3 + 2)]) ∧ M_image_L54 k 1000000 i 0 m = k i m' := by
  have ta0 := h.tr (i := i * 3 + 0) (by omega) (by omega)
  have ta1 := h.tr (i := i * 3 + 1) (by omega) (by omega)
  have ta2 := h.tr (i := i * 3 + 2) (by omega) (by omega)
  obtain ⟨a1, b1, c1⟩ := put_M (x := S 1 (i * 3 + 0)) hI (by omega) (anI_id ta0.1 (by omega))
  obtain ⟨a2, b2, c2⟩ := put_M (x := S 1 (i * 3 + 1)) c1 (by rw [List.length_append, List.length_singleton]; omega) (anI_id ta1.1 (by omega))
  obtain ⟨a3, b3, c3⟩ := put_M (x := S 1 (i * 3 + 2)) c2 (by rw [List.length_append, List.length_append, List.length_singleton, List.length_singleton]; omega) (anI_id ta2.1 (by omega))
  have st : ∀ (n : Nat) (j j' : Int) (q q' : zM) (LL : List Int), 0 ≤ j → j < 3 → j' = j + 1 → IMw m0 q LL → M_writes (S 1 (i * 3 + j)) q = some q' → M_image_L54 k (n + 1) i j q = M_image_L54 k n i j' q' := by
    intro n j j' q q' LL j0 j1 je hq hp
    show M_image_B54 _ _ _ _ _ = _
    unfold M_image_B54
    rw [if_pos j1, MG_look (hq.gg h) q0 q1 j0 j1, Option.bind_some, hp, Option.bind_some, wI_ok (by omega) (by omega), je]
  have s0 := st 999999 0 1 m a1 _ (by decide) (by decide) (by decide) hI b1
  have s1 := st 999998 1 2 a1 a2 _ (by decide) (by decide) (by decide) c1 b2
  have s2 := st 999997 2 3 a2 a3 _ (by decide) (by decide) (by decide) c2 b3
  have s3 : M_image_L54 k 999997 i 3 a3 = k i a3 := by
    show M_image_B54 _ (M_image_L54 k 999996) _ _ _ = _
    unfold M_image_B54
    rw [if_neg (by decide)]
  refine ⟨a3, ?_, ?_⟩
  · rw [List.append_assoc, List.append_assoc] at c3
    exact c3
  · exact s0.trans (s1.trans (s2.trans s3))
theorem three_T {Z S m0 m : zM} {bk i : Int} {LL : List Int} (k : Int → zM → Option (Int × zM)) (h : GG Z S m0 bk 0) (hI : IMw m0 m LL) (hl : LL.length + 3 ≤ 160) (q0 : 0 ≤ i) (q1 : i < Z 0 0) : ∃ m', IMw m0 m' (LL ++ [S 4 (i * 3 + 0), S 4 (i * 3 + 1), S 4 (i * 3 + 2)]) ∧ M_image_L121 k 1000000 i 0 m = k i m' := by
  have ta0 := h.ta (i := i * 3 + 0) (by omega) (by omega)
  have ta1 := h.ta (i := i * 3 + 1) (by omega) (by omega)
  have ta2 := h.ta (i := i * 3 + 2) (by omega) (by omega)
  obtain ⟨a1, b1, c1⟩ := put_M (x := S 4 (i * 3 + 0)) hI (by omega) (anI_id ta0.1 (by omega))
  obtain ⟨a2, b2, c2⟩ := put_M (x := S 4 (i * 3 + 1)) c1 (by rw [List.length_append, List.length_singleton]; omega) (anI_id ta1.1 (by omega))
  obtain ⟨a3, b3, c3⟩ := put_M (x := S 4 (i * 3 + 2)) c2 (by rw [List.length_append, List.length_append, List.length_singleton, List.length_singleton]; omega) (anI_id ta2.1 (by omega))
  have st : ∀ (n : Nat) (j j' : Int) (q q' : zM) (LL : List Int), 0 ≤ j → j < 3 → j' = j + 1 → IMw m0 q LL → M_writes (S 4 (i * 3 + j)) q = some q' → M_image_L121 k (n + 1) i j q = M_image_L121 k n i j' q' := by
    intro n j j' q q' LL j0 j1 je hq hp
    show M_image_B121 _ _ _ _ _ = _
    unfold M_image_B121
    rw [if_pos j1, MG_taste (hq.gg h) q0 q1 j0 j1, Option.bind_some, hp, Option.bind_some, wI_ok (by omega) (by omega), je]
  have s0 := st 999999 0 1 m a1 _ (by decide) (by decide) (by decide) hI b1
  have s1 := st 999998 1 2 a1 a2 _ (by decide) (by decide) (by decide) c1 b2
  have s2 := st 999997 2 3 a2 a3 _ (by decide) (by decide) (by decide) c2 b3
  have s3 : M_image_L121 k 999997 i 3 a3 = k i a3 := by
    show M_image_B121 _ (M_image_L121 k 999996) _ _ _ = _
    unfold M_image_B121
    rw [if_neg (by decide)]
  refine ⟨a3, ?_, ?_⟩
  · rw [List.append_assoc, List.append_assoc] at c3
    exact c3
  · exact s0.trans (s1.trans (s2.trans s3))
theorem wp_imageM {Z S mM : zM} {bk : Int} (h : GG Z S mM bk 0) : wp (M_image mM) (fun r => IMw mM r.2 (imB Z S (Z 0 0).toNat ++ [ckL (imB Z S (Z 0 0).toNat)]) ∧ r.1 = ((imB Z S (Z 0 0).toNat ++ [ckL (imB Z S (Z 0 0).toNat)]).length : Int)) := by
  have n1 := h.nb
  have n2 := h.ng
  have n3 := h.bk
  have dd := h.dy
  have hh := h.hr
  have ff := h.2.1.2.1
  have tt := h.2.1.1.1
  have g := fun {m : zM} {L : List Int} (hw : IMw mM m L) => hw.gg h
  have nz : ∀ {m : zM} {L : List Int}, IMw mM m L → m 0 13 = bk ∧ m 7 bk = Z 0 1 ∧ m 2 bk = Z 0 0 := fun hw => ⟨(g hw).2.2.1, (g hw).1.2.1.1, (g hw).1.1.1⟩
  have hby := imB_by h (Z 0 0).toNat (by omega)
  unfold M_image
  rw [pf_ok]
  have h0 : IMw mM (upm mM 0 76 0) [] := ⟨fun a q1 q2 => upm_ne q1, fun j hj => ru2 hj, ru3 rfl rfl, fun j hj => absurd hj (by show ¬ j < 0; omega)⟩
  obtain ⟨m1, e1, h1⟩ := pair_M (x := S 0 0) h0 (by show 0 + 2 ≤ 160; omega) dd.1 (by omega)
  have dv : dvI (24 * S 0 0 + S 0 1) 24 = S 0 0 := by rw [dvI_n (by omega) (by omega) (by omega) (by omega)]; omega
  rw [rd_ok (by decide) (by decide), ru1 (b := 27) (by decide), tt, dv, e1, Option.bind_some, MG_hour (g h1), Option.bind_some]
  obtain ⟨m2, e2, h2⟩ := put_M (x := S 0 1) h1 (by show 2 < 160; omega) (anI_id hh.1 (by omega))
  rw [e2, Option.bind_some, rd_ok (by decide) (by decide), (g h2).2.1.2.1.1]
  obtain ⟨m3, e3, h3⟩ := pair_M (x := S 0 2) h2 (by show 3 + 2 ≤ 160; omega) ff.2.1 (by omega)
  rw [e3, Option.bind_some]
  have h3' : IMw mM m3 (imG S 0) := h3
  refine wp_for (fun n i (s : zM) => M_image_L39 (fun m17 => M_image_L106 (fun m19 => M_image_L208 1000000 151 0 m19) 1000000 0 m17) n i s) (fun i s => IMw mM s (imG S i.toNat)) _ 0 (Z 0 1) ?_ ?_ 1000000 0 m3 (by omega) (by omega) (by omega) h3'
  · intro n s hI
    show wp (M_image_B39 _ _ _ _) _
    unfold M_image_B39
    rw [(nz hI).1, rd_ok (by omega) (by omega), (nz hI).2.1, if_neg (by omega)]
    refine wp_for (fun n i (s : zM) => M_image_L106 (fun m19 => M_image_L208 1000000 151 0 m19) n i s) (fun i s => IMw mM s (imB Z S i.toNat)) _ 0 (Z 0 0) ?_ ?_ 1000000 0 s (by omega) (by omega) (by omega) hI
    · intro n s hI
      have ll := imB_len (S := S) n2.2 (Z 0 0).toNat
      show wp (M_image_B106 _ _ _ _) _
      unfold M_image_B106
      rw [(nz hI).1, rd_ok (by omega) (by omega), (nz hI).2.2, if_neg (by omega)]
      show wp (M_image_L208 1000000 151 0 s) _
      rw [checkM_L _ hI.2.2.2 hI.2.2.1 (by omega) hby.at]
      have cb := ck_b (L := imB Z S (Z 0 0).toNat)
      obtain ⟨m4, e4, h4⟩ := put_M (x := ckL (imB Z S (Z 0 0).toNat)) hI (by omega) (anI_id cb.1 (by omega))
      rw [e4, Option.bind_some]
      exact wp_some ⟨h4, h4.2.2.1⟩
    · intro n i s q0 q1 hI hr
      have ll := imB_len (S := S) n2.2 i.toNat
      have ei : ((i.toNat : Nat) : Int) = i := by omega
      have en : (i + 1).toNat = i.toNat + 1 := by omega
      show wp (M_image_B106 _ _ _ _) _
      unfold M_image_B106
      rw [(nz hI).1, rd_ok (by omega) (by omega), (nz hI).2.2, if_pos q1]
      obtain ⟨a3, h4, e4⟩ := three_T (fun x1_4 m5 => M_image_L145 (fun x1_6 m7 => M_image_L106 (fun m19 => M_image_L208 1000000 151 0 m19) n (wI (x1_6 + 1)) m7) 1000000 x1_4 0 m5) h hI (by omega) q0 q1
      rw [e4]
      have h4 : IMw mM a3 (imB Z S i.toNat ++ pP2 S i 0) := h4
      refine wp_for (fun k j (s : zM) => M_image_L145 (fun x1_6 m7 => M_image_L106 (fun m19 => M_image_L208 1000000 151 0 m19) n (wI (x1_6 + 1)) m7) k i j s) (fun j s => IMw mM s (imB Z S i.toNat ++ pP2 S i j.toNat)) _ 0 (Z 0 1) ?_ ?_ 1000000 0 a3 (by omega) (by omega) (by omega) h4
      · intro k s hI
        show wp (M_image_B145 _ _ _ _ _) _
        unfold M_image_B145
        rw [(nz hI).1, rd_ok (by omega) (by omega), (nz hI).2.1, if_neg (by omega)]
        show wp (M_image_L106 _ n (wI (i + 1)) s) _
        rw [wI_ok (x := i + 1) (by omega) (by omega)]
        refine hr s ?_
        rw [en]
        unfold imB
        rw [ei]
        exact hI
      · intro k j s p0 p1 hI hr2
        have lp := pP2_len (S := S) (b := i) j.toNat
        have ej : ((j.toNat : Nat) : Int) = j := by omega
        have en2 : (j + 1).toNat = j.toNat + 1 := by omega
        have la : (imB Z S i.toNat ++ pP2 S i j.toNat).length ≤ 157 := by rw [List.length_append]; omega
        have sa := h.sa q0 q1 p0 p1
        have st := h.st q0 q1 p0 p1
        obtain ⟨m5, e5, h5⟩ := put_M (x := S 5 (i * 8 + j)) hI (by omega) (anI_id sa.1 (by omega))
        obtain ⟨m6, e6, h6⟩ := put_M (x := S 6 (i * 8 + j)) h5 (by rw [List.length_append, List.length_singleton]; omega) (anI_id st.1 (by omega))
        show wp (M_image_B145 _ _ _ _ _) _
        unfold M_image_B145
        rw [(nz hI).1, rd_ok (by omega) (by omega), (nz hI).2.1, if_pos p1, MG_pair h q0 q1 p0 p1, Option.bind_some, rd_ok (by omega) (by omega), MG_saw (g hI) q0 q1 p0 p1, e5, Option.bind_some, Option.bind_some, rd_ok (by omega) (by omega), MG_today (g h5) q0 q1 p0 p1, e6, Option.bind_some, wI_ok (x := j + 1) (by omega) (by omega)]
        refine hr2 m6 ?_
        rw [en2]
        unfold pP2
        rw [ej]
        rw [List.append_assoc, List.append_assoc] at h6
        exact h6
  · intro n i s q0 q1 hI hr
    have ll := imG_len (S := S) i.toNat
    have ei : ((i.toNat : Nat) : Int) = i := by omega
    have en : (i + 1).toNat = i.toNat + 1 := by omega
    have kb := h.kb q0 q1
    have sb := h.sb q0 q1
    show wp (M_image_B39 _ _ _ _) _
    unfold M_image_B39
    rw [(nz hI).1, rd_ok (by omega) (by omega), (nz hI).2.1, if_pos q1]
    obtain ⟨a3, c3, e3'⟩ := three_L (fun x1_4 m5 => rd 30 176 x1_4 m5 (fun y6 =>
  (M_writes (wI (y6 + 1)) m5).bind (fun r7 =>
  rd 31 176 x1_4 r7 (fun y10 =>
  (M_writes y10 r7).bind (fun r11 =>
  M_image_L39 (fun m17 => M_image_L106 (fun m19 => M_image_L208 1000000 151 0 m19) 1000000 0 m17) n (wI (x1_4 + 1)) r11))))) h hI (by omega) q0 q1
    rw [e3']
    have l3 : (imG S i.toNat ++ [S 1 (i * 3 + 0), S 1 (i * 3 + 1), S 1 (i * 3 + 2)]).length ≤ 150 := by
      rw [List.length_append, ll]
      show 5 + 5 * i.toNat + 3 ≤ 150
      omega
    obtain ⟨m5, e5, h5⟩ := put_M (x := S 2 i + 1) c3 (by omega) (anI_id (by omega) (by omega))
    obtain ⟨m6, e6, h6⟩ := put_M (x := S 3 i) h5 (by rw [List.length_append, List.length_singleton]; omega) (anI_id sb.1 (by omega))
    show wp (rd 30 176 i a3 _) _
    rw [rd_ok q0 (by omega), (g c3).2.1.2.2.2.1.at (i := i) (j := i) ⟨q0, q1⟩ (by omega), wI_ok (x := S 2 i + 1) (by omega) (by omega), e5, Option.bind_some, rd_ok q0 (by omega), (g h5).2.1.2.2.2.2.1.at (i := i) (j := i) ⟨q0, q1⟩ (by omega), e6, Option.bind_some, wI_ok (x := i + 1) (by omega) (by omega)]
    refine hr m6 ?_
    rw [en]
    unfold imG pG
    rw [ei]
    rw [List.append_assoc, List.append_assoc] at h6
    exact h6
theorem rs_image {mC mM : zM} (h : Rel mC mM) : wp (C_image mC) (fun a => wp (M_image mM) (fun b => a.1 = b.1 ∧ Rel a.2 b.2)) := by
  obtain ⟨z, Z, S, b, hr⟩ := h.toZ
  obtain ⟨hz, h12, hs, hg, hu, hZ, hS⟩ := id hr
  have n1 := hg.nb
  have n2 := hg.ng
  unfold C_image
  rw [mro_ok h12 (kdz hz)]
  refine wp_bm (wp_imageC hg hz hZ hS (imB_by hg _ (by omega)).at) (fun r hr1 => wp_some (wp_mono (wp_imageM hg) (fun r' ⟨hr2, hr3⟩ => ⟨by rw [hr1.2.1, hr3], ?_⟩)))
  obtain ⟨c1, c2, c3⟩ := hr1
  obtain ⟨d1, d2, d3, d4⟩ := hr2
  have ll : (imB Z S (Z 0 0).toNat ++ [ckL (imB Z S (Z 0 0).toNat)]).length ≤ 160 := by
    have := imB_len (S := S) n2.2 (Z 0 0).toNat
    rw [List.length_append, List.length_singleton]; omega
  refine h.io ?_ ?_ ?_ ?_ ?_ ?_ ?_ ?_ ?_ ⟨d2 13 (by decide), d2 56 (by decide), d2 57 (by decide), d2 58 (by decide)⟩ (fun a _ _ => d1 a (by omega) (by omega)) (fun u _ _ a _ _ i _ _ => by rw [d1 a (by omega) (by omega)])
  · show RT (r 3) (r 2 1) (r'.2 1) (r'.2 0 1)
    rw [c1 3 (by decide) (by decide), c1 2 (by decide) (by decide), d1 1 (by decide) (by decide), d2 1 (by decide)]; exact hs.1
  · show r 1 1 = r'.2 0 10 ∧ r 1 2 = r'.2 0 11
    rw [c1 1 (by decide) (by decide), d2 10 (by decide), d2 11 (by decide)]; exact hs.2.1
  · intro z' hz' h12'
    have ez : z' = z := by rw [h12] at h12'; omega
    subst ez
    show RL r r'.2 _
    unfold RL
    rw [c1 40 (by decide) (by decide), c1 42 (by decide) (by decide), d2 65 (by decide), d1 43 (by decide) (by decide), d1 44 (by decide) (by decide)]
    exact hs.2.2.2.1
  · show RI r r'.2
    unfold RI
    rw [c2, d3]
    refine ⟨rfl, by omega, by omega, fun k k0 k1 => ?_⟩
    have a1 := c3 k.toNat (by omega)
    have a2 := d4 k.toNat (by omega)
    rw [show ((k.toNat : Nat) : Int) = k from by omega] at a1 a2
    rw [a1, a2]
  · show RR (r 54) (r'.2 26)
    rw [c1 54 (by decide) (by decide), d1 26 (by decide) (by decide)]; exact hs.2.2.2.2.2.1
  · exact c1 0 (by decide) (by decide)
  · exact c1 7 (by decide) (by decide)
  · exact fun a a1 a2 => c1 a (by omega) (by omega)
  · exact fun z' _ _ a a1 _ _ => c1 a (by omega) (by omega)
