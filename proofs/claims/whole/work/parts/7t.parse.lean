/-! statements: which one; the end of one; all of them -/
theorem up2 {c : zX} {zd : Nat} {b : Int} {mC mM : zM} {p : Option (Int × zM)} {q : Option zM} (h : wp p (fun a => wp q (fun r => ST c zd b mC mM a r))) : wp p (fun a => wp q (fun r => ST2 c zd b mC mM a r)) := wp_mono h (fun a ha => wp_mono ha (fun r hr => Or.inl hr))
theorem iw_beast {c : zX} {i : Int} {m : zM} (h : PM c i m) (h7 : xm c 4 i ≠ 257) : M_isWord 422607680372 m = some (if xm c 4 i = 300 then 1 else 0) := isWord_ok (k := 0) h h7 (by decide)
theorem iw_taste {c : zX} {i : Int} {m : zM} (h : PM c i m) (h7 : xm c 4 i ≠ 257) : M_isWord 499851162725 m = some (if xm c 4 i = 304 then 1 else 0) := isWord_ok (k := 4) h h7 (by decide)
theorem iw_guest {c : zX} {i : Int} {m : zM} (h : PM c i m) (h7 : xm c 4 i ≠ 257) : M_isWord 444351214452 m = some (if xm c 4 i = 305 then 1 else 0) := isWord_ok (k := 5) h h7 (by decide)
theorem iw_likes {c : zX} {i : Int} {m : zM} (h : PM c i m) (h7 : xm c 4 i ≠ 257) : M_isWord 465625113971 m = some (if xm c 4 i = 308 then 1 else 0) := isWord_ok (k := 8) h h7 (by decide)
theorem iw_may {c : zX} {i : Int} {m : zM} (h : PM c i m) (h7 : xm c 4 i ≠ 257) : M_isWord 7168377 m = some (if xm c 4 i = 309 then 1 else 0) := isWord_ok (k := 9) h h7 (by decide)
theorem iw_ushers {c : zX} {i : Int} {m : zM} (h : PM c i m) (h7 : xm c 4 i ≠ 257) : M_isWord 129138533167731 m = some (if xm c 4 i = 310 then 1 else 0) := isWord_ok (k := 10) h h7 (by decide)
theorem iw_bores {c : zX} {i : Int} {m : zM} (h : PM c i m) (h7 : xm c 4 i ≠ 257) : M_isWord 422776563059 m = some (if xm c 4 i = 311 then 1 else 0) := isWord_ok (k := 11) h h7 (by decide)
theorem iw_keeps {c : zX} {i : Int} {m : zM} (h : PM c i m) (h7 : xm c 4 i ≠ 257) : M_isWord 461262647411 m = some (if xm c 4 i = 312 then 1 else 0) := isWord_ok (k := 12) h h7 (by decide)
theorem iw_fee {c : zX} {i : Int} {m : zM} (h : PM c i m) (h7 : xm c 4 i ≠ 257) : M_isWord 6710629 m = some (if xm c 4 i = 313 then 1 else 0) := isWord_ok (k := 13) h h7 (by decide)
theorem iw_rain {c : zX} {i : Int} {m : zM} (h : PM c i m) (h7 : xm c 4 i ≠ 257) : M_isWord 1918986606 m = some (if xm c 4 i = 314 then 1 else 0) := isWord_ok (k := 14) h h7 (by decide)
theorem st_beast {c : zX} {zd : Nat} {b i : Int} {mC mM : zM} (hL : LX c) (h : PS c zd b i mC mM) (hk : xm c 4 i = 300) : wp (Pa_statement mC) (fun a => wp (M_statement mM) (fun r => ST2 c zd b mC mM a r)) := by
  obtain ⟨h1, h2, h3⟩ := h
  have c7 : xm c 4 i ≠ 257 := by omega
  have J := up2 (beast_J hL ⟨h1, h2, h3⟩ hk)
  unfold Pa_statement M_statement
  rw [kind_ok hL h1 h2, Option.bind_some, if_pos hk, lex_ok h2 c7, Option.bind_some, if_neg (show ¬ 0 < mM 0 8 by rw [h2.2.2.2.1]; decide), iw_beast h2 c7, Option.bind_some, if_pos hk, if_neg (show ¬ (1 : Int) = 0 by decide)]
  exact wp_jb (R := fun a r => ST2 c zd b mC mM a r) J (fun a r hr => wp_some (wp_some hr))
theorem st_taste {c : zX} {zd : Nat} {b i : Int} {mC mM : zM} (hL : LX c) (h : PS c zd b i mC mM) (hk : xm c 4 i = 304) : wp (Pa_statement mC) (fun a => wp (M_statement mM) (fun r => ST2 c zd b mC mM a r)) := by
  obtain ⟨h1, h2, h3⟩ := h
  have c7 : xm c 4 i ≠ 257 := by omega
  have J := up2 (taste_J hL ⟨h1, h2, h3⟩ hk)
  unfold Pa_statement M_statement
  rw [kind_ok hL h1 h2, Option.bind_some, if_neg (show ¬ xm c 4 i = 300 by omega), if_neg (show ¬ xm c 4 i = 301 by omega), if_neg (show ¬ xm c 4 i = 302 by omega), if_neg (show ¬ xm c 4 i = 303 by omega), if_pos hk, lex_ok h2 c7, Option.bind_some, if_neg (show ¬ 0 < mM 0 8 by rw [h2.2.2.2.1]; decide), iw_beast h2 c7, Option.bind_some, if_neg (show ¬ xm c 4 i = 300 by omega), if_pos (show (0 : Int) = 0 from rfl), iw_taste h2 c7, Option.bind_some, if_pos hk, if_neg (show ¬ (1 : Int) = 0 by decide)]
  exact wp_jb (R := fun a r => ST2 c zd b mC mM a r) J (fun a r hr => wp_some (wp_some hr))
theorem st_guest {c : zX} {zd : Nat} {b i : Int} {mC mM : zM} (hL : LX c) (h : PS c zd b i mC mM) (hk : xm c 4 i = 305) : wp (Pa_statement mC) (fun a => wp (M_statement mM) (fun r => ST2 c zd b mC mM a r)) := by
  obtain ⟨h1, h2, h3⟩ := h
  have c7 : xm c 4 i ≠ 257 := by omega
  have J := up2 (guest_J hL ⟨h1, h2, h3⟩ hk)
  unfold Pa_statement M_statement
  rw [kind_ok hL h1 h2, Option.bind_some, if_neg (show ¬ xm c 4 i = 300 by omega), if_neg (show ¬ xm c 4 i = 301 by omega), if_neg (show ¬ xm c 4 i = 302 by omega), if_neg (show ¬ xm c 4 i = 303 by omega), if_neg (show ¬ xm c 4 i = 304 by omega), if_pos hk, lex_ok h2 c7, Option.bind_some, if_neg (show ¬ 0 < mM 0 8 by rw [h2.2.2.2.1]; decide), iw_beast h2 c7, Option.bind_some, if_neg (show ¬ xm c 4 i = 300 by omega), if_pos (show (0 : Int) = 0 from rfl), iw_taste h2 c7, Option.bind_some, if_neg (show ¬ xm c 4 i = 304 by omega), if_pos (show (0 : Int) = 0 from rfl), iw_guest h2 c7, Option.bind_some, if_pos hk, if_neg (show ¬ (1 : Int) = 0 by decide)]
  exact wp_jb (R := fun a r => ST2 c zd b mC mM a r) J (fun a r hr => wp_some (wp_some hr))
theorem st_fears {c : zX} {zd : Nat} {b i : Int} {mC mM : zM} (hL : LX c) (h : PS c zd b i mC mM) (hk : xm c 4 i = 307) : wp (Pa_statement mC) (fun a => wp (M_statement mM) (fun r => ST2 c zd b mC mM a r)) := by
  obtain ⟨h1, h2, h3⟩ := h
  have c7 : xm c 4 i ≠ 257 := by omega
  have J := up2 (fear_J hL ⟨h1, h2, h3⟩ hk)
  unfold Pa_statement M_statement
  rw [kind_ok hL h1 h2, Option.bind_some, if_neg (show ¬ xm c 4 i = 300 by omega), if_neg (show ¬ xm c 4 i = 301 by omega), if_neg (show ¬ xm c 4 i = 302 by omega), if_neg (show ¬ xm c 4 i = 303 by omega), if_neg (show ¬ xm c 4 i = 304 by omega), if_neg (show ¬ xm c 4 i = 305 by omega), if_neg (show ¬ xm c 4 i = 306 by omega), if_pos hk, lex_ok h2 c7, Option.bind_some, if_neg (show ¬ 0 < mM 0 8 by rw [h2.2.2.2.1]; decide), iw_beast h2 c7, Option.bind_some, if_neg (show ¬ xm c 4 i = 300 by omega), if_pos (show (0 : Int) = 0 from rfl), iw_taste h2 c7, Option.bind_some, if_neg (show ¬ xm c 4 i = 304 by omega), if_pos (show (0 : Int) = 0 from rfl), iw_guest h2 c7, Option.bind_some, if_neg (show ¬ xm c 4 i = 305 by omega), if_pos (show (0 : Int) = 0 from rfl), iw_fears h2 c7, Option.bind_some, if_pos hk, if_neg (show ¬ (1 : Int) = 0 by decide)]
  exact wp_jb (R := fun a r => ST2 c zd b mC mM a r) J (fun a r hr => wp_some (wp_some hr))
theorem st_likes {c : zX} {zd : Nat} {b i : Int} {mC mM : zM} (hL : LX c) (h : PS c zd b i mC mM) (hk : xm c 4 i = 308) : wp (Pa_statement mC) (fun a => wp (M_statement mM) (fun r => ST2 c zd b mC mM a r)) := by
  obtain ⟨h1, h2, h3⟩ := h
  have c7 : xm c 4 i ≠ 257 := by omega
  have J := likes_J hL ⟨h1, h2, h3⟩ hk
  unfold Pa_statement M_statement
  rw [kind_ok hL h1 h2, Option.bind_some, if_neg (show ¬ xm c 4 i = 300 by omega), if_neg (show ¬ xm c 4 i = 301 by omega), if_neg (show ¬ xm c 4 i = 302 by omega), if_neg (show ¬ xm c 4 i = 303 by omega), if_neg (show ¬ xm c 4 i = 304 by omega), if_neg (show ¬ xm c 4 i = 305 by omega), if_neg (show ¬ xm c 4 i = 306 by omega), if_neg (show ¬ xm c 4 i = 307 by omega), if_pos hk, lex_ok h2 c7, Option.bind_some, if_neg (show ¬ 0 < mM 0 8 by rw [h2.2.2.2.1]; decide), iw_beast h2 c7, Option.bind_some, if_neg (show ¬ xm c 4 i = 300 by omega), if_pos (show (0 : Int) = 0 from rfl), iw_taste h2 c7, Option.bind_some, if_neg (show ¬ xm c 4 i = 304 by omega), if_pos (show (0 : Int) = 0 from rfl), iw_guest h2 c7, Option.bind_some, if_neg (show ¬ xm c 4 i = 305 by omega), if_pos (show (0 : Int) = 0 from rfl), iw_fears h2 c7, Option.bind_some, if_neg (show ¬ xm c 4 i = 307 by omega), if_pos (show (0 : Int) = 0 from rfl), iw_likes h2 c7, Option.bind_some, if_pos hk, if_neg (show ¬ (1 : Int) = 0 by decide)]
  exact wp_jb (R := fun a r => ST2 c zd b mC mM a r) J (fun a r hr => wp_some (wp_some hr))
theorem st_may {c : zX} {zd : Nat} {b i : Int} {mC mM : zM} (hL : LX c) (h : PS c zd b i mC mM) (hk : xm c 4 i = 309) : wp (Pa_statement mC) (fun a => wp (M_statement mM) (fun r => ST2 c zd b mC mM a r)) := by
  obtain ⟨h1, h2, h3⟩ := h
  have c7 : xm c 4 i ≠ 257 := by omega
  have J := may_J hL ⟨h1, h2, h3⟩ hk
  unfold Pa_statement M_statement
  rw [kind_ok hL h1 h2, Option.bind_some, if_neg (show ¬ xm c 4 i = 300 by omega), if_neg (show ¬ xm c 4 i = 301 by omega), if_neg (show ¬ xm c 4 i = 302 by omega), if_neg (show ¬ xm c 4 i = 303 by omega), if_neg (show ¬ xm c 4 i = 304 by omega), if_neg (show ¬ xm c 4 i = 305 by omega), if_neg (show ¬ xm c 4 i = 306 by omega), if_neg (show ¬ xm c 4 i = 307 by omega), if_neg (show ¬ xm c 4 i = 308 by omega), if_pos hk, lex_ok h2 c7, Option.bind_some, if_neg (show ¬ 0 < mM 0 8 by rw [h2.2.2.2.1]; decide), iw_beast h2 c7, Option.bind_some, if_neg (show ¬ xm c 4 i = 300 by omega), if_pos (show (0 : Int) = 0 from rfl), iw_taste h2 c7, Option.bind_some, if_neg (show ¬ xm c 4 i = 304 by omega), if_pos (show (0 : Int) = 0 from rfl), iw_guest h2 c7, Option.bind_some, if_neg (show ¬ xm c 4 i = 305 by omega), if_pos (show (0 : Int) = 0 from rfl), iw_fears h2 c7, Option.bind_some, if_neg (show ¬ xm c 4 i = 307 by omega), if_pos (show (0 : Int) = 0 from rfl), iw_likes h2 c7, Option.bind_some, if_neg (show ¬ xm c 4 i = 308 by omega), if_pos (show (0 : Int) = 0 from rfl), iw_may h2 c7, Option.bind_some, if_pos hk, if_neg (show ¬ (1 : Int) = 0 by decide)]
  exact wp_jb (R := fun a r => ST2 c zd b mC mM a r) J (fun a r hr => wp_some (wp_some hr))
theorem st_ushers {c : zX} {zd : Nat} {b i : Int} {mC mM : zM} (hL : LX c) (h : PS c zd b i mC mM) (hk : xm c 4 i = 310) : wp (Pa_statement mC) (fun a => wp (M_statement mM) (fun r => ST2 c zd b mC mM a r)) := by
  obtain ⟨h1, h2, h3⟩ := h
  have c7 : xm c 4 i ≠ 257 := by omega
  have J := up2 (set0_J hL ⟨h1, h2, h3⟩ hk)
  unfold Pa_statement M_statement
  rw [kind_ok hL h1 h2, Option.bind_some, if_neg (show ¬ xm c 4 i = 300 by omega), if_neg (show ¬ xm c 4 i = 301 by omega), if_neg (show ¬ xm c 4 i = 302 by omega), if_neg (show ¬ xm c 4 i = 303 by omega), if_neg (show ¬ xm c 4 i = 304 by omega), if_neg (show ¬ xm c 4 i = 305 by omega), if_neg (show ¬ xm c 4 i = 306 by omega), if_neg (show ¬ xm c 4 i = 307 by omega), if_neg (show ¬ xm c 4 i = 308 by omega), if_neg (show ¬ xm c 4 i = 309 by omega), if_pos hk, Option.bind_some, hk, lex_ok h2 c7, Option.bind_some, if_neg (show ¬ 0 < mM 0 8 by rw [h2.2.2.2.1]; decide), iw_beast h2 c7, Option.bind_some, if_neg (show ¬ xm c 4 i = 300 by omega), if_pos (show (0 : Int) = 0 from rfl), iw_taste h2 c7, Option.bind_some, if_neg (show ¬ xm c 4 i = 304 by omega), if_pos (show (0 : Int) = 0 from rfl), iw_guest h2 c7, Option.bind_some, if_neg (show ¬ xm c 4 i = 305 by omega), if_pos (show (0 : Int) = 0 from rfl), iw_fears h2 c7, Option.bind_some, if_neg (show ¬ xm c 4 i = 307 by omega), if_pos (show (0 : Int) = 0 from rfl), iw_likes h2 c7, Option.bind_some, if_neg (show ¬ xm c 4 i = 308 by omega), if_pos (show (0 : Int) = 0 from rfl), iw_may h2 c7, Option.bind_some, if_neg (show ¬ xm c 4 i = 309 by omega), if_pos (show (0 : Int) = 0 from rfl), iw_ushers h2 c7, Option.bind_some, if_pos hk, if_neg (show ¬ (1 : Int) = 0 by decide)]
  exact wp_jb (R := fun a r => ST2 c zd b mC mM a r) J (fun a r hr => wp_some (wp_some hr))
theorem st_bores {c : zX} {zd : Nat} {b i : Int} {mC mM : zM} (hL : LX c) (h : PS c zd b i mC mM) (hk : xm c 4 i = 311) : wp (Pa_statement mC) (fun a => wp (M_statement mM) (fun r => ST2 c zd b mC mM a r)) := by
  obtain ⟨h1, h2, h3⟩ := h
  have c7 : xm c 4 i ≠ 257 := by omega
  have J := up2 (set1_J hL ⟨h1, h2, h3⟩ hk)
  unfold Pa_statement M_statement
  rw [kind_ok hL h1 h2, Option.bind_some, if_neg (show ¬ xm c 4 i = 300 by omega), if_neg (show ¬ xm c 4 i = 301 by omega), if_neg (show ¬ xm c 4 i = 302 by omega), if_neg (show ¬ xm c 4 i = 303 by omega), if_neg (show ¬ xm c 4 i = 304 by omega), if_neg (show ¬ xm c 4 i = 305 by omega), if_neg (show ¬ xm c 4 i = 306 by omega), if_neg (show ¬ xm c 4 i = 307 by omega), if_neg (show ¬ xm c 4 i = 308 by omega), if_neg (show ¬ xm c 4 i = 309 by omega), if_neg (show ¬ xm c 4 i = 310 by omega), if_pos hk, Option.bind_some, hk, lex_ok h2 c7, Option.bind_some, if_neg (show ¬ 0 < mM 0 8 by rw [h2.2.2.2.1]; decide), iw_beast h2 c7, Option.bind_some, if_neg (show ¬ xm c 4 i = 300 by omega), if_pos (show (0 : Int) = 0 from rfl), iw_taste h2 c7, Option.bind_some, if_neg (show ¬ xm c 4 i = 304 by omega), if_pos (show (0 : Int) = 0 from rfl), iw_guest h2 c7, Option.bind_some, if_neg (show ¬ xm c 4 i = 305 by omega), if_pos (show (0 : Int) = 0 from rfl), iw_fears h2 c7, Option.bind_some, if_neg (show ¬ xm c 4 i = 307 by omega), if_pos (show (0 : Int) = 0 from rfl), iw_likes h2 c7, Option.bind_some, if_neg (show ¬ xm c 4 i = 308 by omega), if_pos (show (0 : Int) = 0 from rfl), iw_may h2 c7, Option.bind_some, if_neg (show ¬ xm c 4 i = 309 by omega), if_pos (show (0 : Int) = 0 from rfl), iw_ushers h2 c7, Option.bind_some, if_neg (show ¬ xm c 4 i = 310 by omega), if_pos (show (0 : Int) = 0 from rfl), iw_bores h2 c7, Option.bind_some, if_pos hk, if_neg (show ¬ (1 : Int) = 0 by decide)]
  exact wp_jb (R := fun a r => ST2 c zd b mC mM a r) J (fun a r hr => wp_some (wp_some hr))
theorem st_keeps {c : zX} {zd : Nat} {b i : Int} {mC mM : zM} (hL : LX c) (h : PS c zd b i mC mM) (hk : xm c 4 i = 312) : wp (Pa_statement mC) (fun a => wp (M_statement mM) (fun r => ST2 c zd b mC mM a r)) := by
  obtain ⟨h1, h2, h3⟩ := h
  have c7 : xm c 4 i ≠ 257 := by omega
  have J := up2 (set2_J hL ⟨h1, h2, h3⟩ hk)
  unfold Pa_statement M_statement
  rw [kind_ok hL h1 h2, Option.bind_some, if_neg (show ¬ xm c 4 i = 300 by omega), if_neg (show ¬ xm c 4 i = 301 by omega), if_neg (show ¬ xm c 4 i = 302 by omega), if_neg (show ¬ xm c 4 i = 303 by omega), if_neg (show ¬ xm c 4 i = 304 by omega), if_neg (show ¬ xm c 4 i = 305 by omega), if_neg (show ¬ xm c 4 i = 306 by omega), if_neg (show ¬ xm c 4 i = 307 by omega), if_neg (show ¬ xm c 4 i = 308 by omega), if_neg (show ¬ xm c 4 i = 309 by omega), if_neg (show ¬ xm c 4 i = 310 by omega), if_neg (show ¬ xm c 4 i = 311 by omega), if_pos hk, Option.bind_some, hk, lex_ok h2 c7, Option.bind_some, if_neg (show ¬ 0 < mM 0 8 by rw [h2.2.2.2.1]; decide), iw_beast h2 c7, Option.bind_some, if_neg (show ¬ xm c 4 i = 300 by omega), if_pos (show (0 : Int) = 0 from rfl), iw_taste h2 c7, Option.bind_some, if_neg (show ¬ xm c 4 i = 304 by omega), if_pos (show (0 : Int) = 0 from rfl), iw_guest h2 c7, Option.bind_some, if_neg (show ¬ xm c 4 i = 305 by omega), if_pos (show (0 : Int) = 0 from rfl), iw_fears h2 c7, Option.bind_some, if_neg (show ¬ xm c 4 i = 307 by omega), if_pos (show (0 : Int) = 0 from rfl), iw_likes h2 c7, Option.bind_some, if_neg (show ¬ xm c 4 i = 308 by omega), if_pos (show (0 : Int) = 0 from rfl), iw_may h2 c7, Option.bind_some, if_neg (show ¬ xm c 4 i = 309 by omega), if_pos (show (0 : Int) = 0 from rfl), iw_ushers h2 c7, Option.bind_some, if_neg (show ¬ xm c 4 i = 310 by omega), if_pos (show (0 : Int) = 0 from rfl), iw_bores h2 c7, Option.bind_some, if_neg (show ¬ xm c 4 i = 311 by omega), if_pos (show (0 : Int) = 0 from rfl), iw_keeps h2 c7, Option.bind_some, if_pos hk, if_neg (show ¬ (1 : Int) = 0 by decide)]
  exact wp_jb (R := fun a r => ST2 c zd b mC mM a r) J (fun a r hr => wp_some (wp_some hr))
theorem st_fee {c : zX} {zd : Nat} {b i : Int} {mC mM : zM} (hL : LX c) (h : PS c zd b i mC mM) (hk : xm c 4 i = 313) : wp (Pa_statement mC) (fun a => wp (M_statement mM) (fun r => ST2 c zd b mC mM a r)) := by
  obtain ⟨h1, h2, h3⟩ := h
  have c7 : xm c 4 i ≠ 257 := by omega
  have J := up2 (set3_J hL ⟨h1, h2, h3⟩ hk)
  unfold Pa_statement M_statement
  rw [kind_ok hL h1 h2, Option.bind_some, if_neg (show ¬ xm c 4 i = 300 by omega), if_neg (show ¬ xm c 4 i = 301 by omega), if_neg (show ¬ xm c 4 i = 302 by omega), if_neg (show ¬ xm c 4 i = 303 by omega), if_neg (show ¬ xm c 4 i = 304 by omega), if_neg (show ¬ xm c 4 i = 305 by omega), if_neg (show ¬ xm c 4 i = 306 by omega), if_neg (show ¬ xm c 4 i = 307 by omega), if_neg (show ¬ xm c 4 i = 308 by omega), if_neg (show ¬ xm c 4 i = 309 by omega), if_neg (show ¬ xm c 4 i = 310 by omega), if_neg (show ¬ xm c 4 i = 311 by omega), if_neg (show ¬ xm c 4 i = 312 by omega), if_pos hk, Option.bind_some, hk, lex_ok h2 c7, Option.bind_some, if_neg (show ¬ 0 < mM 0 8 by rw [h2.2.2.2.1]; decide), iw_beast h2 c7, Option.bind_some, if_neg (show ¬ xm c 4 i = 300 by omega), if_pos (show (0 : Int) = 0 from rfl), iw_taste h2 c7, Option.bind_some, if_neg (show ¬ xm c 4 i = 304 by omega), if_pos (show (0 : Int) = 0 from rfl), iw_guest h2 c7, Option.bind_some, if_neg (show ¬ xm c 4 i = 305 by omega), if_pos (show (0 : Int) = 0 from rfl), iw_fears h2 c7, Option.bind_some, if_neg (show ¬ xm c 4 i = 307 by omega), if_pos (show (0 : Int) = 0 from rfl), iw_likes h2 c7, Option.bind_some, if_neg (show ¬ xm c 4 i = 308 by omega), if_pos (show (0 : Int) = 0 from rfl), iw_may h2 c7, Option.bind_some, if_neg (show ¬ xm c 4 i = 309 by omega), if_pos (show (0 : Int) = 0 from rfl), iw_ushers h2 c7, Option.bind_some, if_neg (show ¬ xm c 4 i = 310 by omega), if_pos (show (0 : Int) = 0 from rfl), iw_bores h2 c7, Option.bind_some, if_neg (show ¬ xm c 4 i = 311 by omega), if_pos (show (0 : Int) = 0 from rfl), iw_keeps h2 c7, Option.bind_some, if_neg (show ¬ xm c 4 i = 312 by omega), if_pos (show (0 : Int) = 0 from rfl), iw_fee h2 c7, Option.bind_some, if_pos hk, if_neg (show ¬ (1 : Int) = 0 by decide)]
  exact wp_jb (R := fun a r => ST2 c zd b mC mM a r) J (fun a r hr => wp_some (wp_some hr))
theorem st_rain {c : zX} {zd : Nat} {b i : Int} {mC mM : zM} (hL : LX c) (h : PS c zd b i mC mM) (hk : xm c 4 i = 314) : wp (Pa_statement mC) (fun a => wp (M_statement mM) (fun r => ST2 c zd b mC mM a r)) := by
  obtain ⟨h1, h2, h3⟩ := h
  have c7 : xm c 4 i ≠ 257 := by omega
  have J := up2 (set4_J hL ⟨h1, h2, h3⟩ hk)
  unfold Pa_statement M_statement
  rw [kind_ok hL h1 h2, Option.bind_some, if_neg (show ¬ xm c 4 i = 300 by omega), if_neg (show ¬ xm c 4 i = 301 by omega), if_neg (show ¬ xm c 4 i = 302 by omega), if_neg (show ¬ xm c 4 i = 303 by omega), if_neg (show ¬ xm c 4 i = 304 by omega), if_neg (show ¬ xm c 4 i = 305 by omega), if_neg (show ¬ xm c 4 i = 306 by omega), if_neg (show ¬ xm c 4 i = 307 by omega), if_neg (show ¬ xm c 4 i = 308 by omega), if_neg (show ¬ xm c 4 i = 309 by omega), if_neg (show ¬ xm c 4 i = 310 by omega), if_neg (show ¬ xm c 4 i = 311 by omega), if_neg (show ¬ xm c 4 i = 312 by omega), if_neg (show ¬ xm c 4 i = 313 by omega), if_pos hk, Option.bind_some, hk, lex_ok h2 c7, Option.bind_some, if_neg (show ¬ 0 < mM 0 8 by rw [h2.2.2.2.1]; decide), iw_beast h2 c7, Option.bind_some, if_neg (show ¬ xm c 4 i = 300 by omega), if_pos (show (0 : Int) = 0 from rfl), iw_taste h2 c7, Option.bind_some, if_neg (show ¬ xm c 4 i = 304 by omega), if_pos (show (0 : Int) = 0 from rfl), iw_guest h2 c7, Option.bind_some, if_neg (show ¬ xm c 4 i = 305 by omega), if_pos (show (0 : Int) = 0 from rfl), iw_fears h2 c7, Option.bind_some, if_neg (show ¬ xm c 4 i = 307 by omega), if_pos (show (0 : Int) = 0 from rfl), iw_likes h2 c7, Option.bind_some, if_neg (show ¬ xm c 4 i = 308 by omega), if_pos (show (0 : Int) = 0 from rfl), iw_may h2 c7, Option.bind_some, if_neg (show ¬ xm c 4 i = 309 by omega), if_pos (show (0 : Int) = 0 from rfl), iw_ushers h2 c7, Option.bind_some, if_neg (show ¬ xm c 4 i = 310 by omega), if_pos (show (0 : Int) = 0 from rfl), iw_bores h2 c7, Option.bind_some, if_neg (show ¬ xm c 4 i = 311 by omega), if_pos (show (0 : Int) = 0 from rfl), iw_keeps h2 c7, Option.bind_some, if_neg (show ¬ xm c 4 i = 312 by omega), if_pos (show (0 : Int) = 0 from rfl), iw_fee h2 c7, Option.bind_some, if_neg (show ¬ xm c 4 i = 313 by omega), if_pos (show (0 : Int) = 0 from rfl), iw_rain h2 c7, Option.bind_some, if_pos hk, if_neg (show ¬ (1 : Int) = 0 by decide)]
  exact wp_jb (R := fun a r => ST2 c zd b mC mM a r) J (fun a r hr => wp_some (wp_some hr))
theorem st_other {c : zX} {zd : Nat} {b i : Int} {mC mM : zM} (hL : LX c) (h : PS c zd b i mC mM) (hk : xm c 4 i < 300 ∨ 314 < xm c 4 i ∨ xm c 4 i = 301 ∨ xm c 4 i = 302 ∨ xm c 4 i = 303 ∨ xm c 4 i = 306) : wp (Pa_statement mC) (fun a => wp (M_statement mM) (fun r => ST2 c zd b mC mM a r)) := by
  obtain ⟨h1, h2, h3⟩ := h
  have eC : Pa_statement mC = some (0, fmC mC 1 (plc c 1 i)) := by
    unfold Pa_statement
    rw [kind_ok hL h1 h2, Option.bind_some, if_neg (show ¬ xm c 4 i = 300 by omega), fail_ok hL h1 h2, Option.bind_some]
    by_cases k1 : xm c 4 i = 301
    · rw [if_pos k1]
    · rw [if_neg k1]
      by_cases k2 : xm c 4 i = 302
      · rw [if_pos k2]
      · rw [if_neg k2]
        by_cases k3 : xm c 4 i = 303
        · rw [if_pos k3]
        · rw [if_neg k3, if_neg (show ¬ xm c 4 i = 304 by omega), if_neg (show ¬ xm c 4 i = 305 by omega)]
          by_cases k6 : xm c 4 i = 306
          · rw [if_pos k6]
          · rw [if_neg k6, if_neg (show ¬ xm c 4 i = 307 by omega), if_neg (show ¬ xm c 4 i = 308 by omega), if_neg (show ¬ xm c 4 i = 309 by omega), if_neg (show ¬ xm c 4 i = 310 by omega), if_neg (show ¬ xm c 4 i = 311 by omega), if_neg (show ¬ xm c 4 i = 312 by omega), if_neg (show ¬ xm c 4 i = 313 by omega), if_neg (show ¬ xm c 4 i = 314 by omega)]
  rw [eC]
  unfold M_statement
  by_cases c7 : xm c 4 i = 257
  · rw [lex_bad h2 c7, Option.bind_some, if_pos (by rw [fmM_8]; decide)]
    exact wp_some (wp_some (Or.inl (ST_bad (FE_fm (by decide)) fmC_K.C fmM_G.B FB.refl)))
  · rw [lex_ok h2 c7, Option.bind_some, if_neg (show ¬ 0 < mM 0 8 by rw [h2.2.2.2.1]; decide), iw_beast h2 c7, Option.bind_some, if_neg (show ¬ xm c 4 i = 300 by omega), if_pos (show (0 : Int) = 0 from rfl), iw_taste h2 c7, Option.bind_some, if_neg (show ¬ xm c 4 i = 304 by omega), if_pos (show (0 : Int) = 0 from rfl), iw_guest h2 c7, Option.bind_some, if_neg (show ¬ xm c 4 i = 305 by omega), if_pos (show (0 : Int) = 0 from rfl), iw_fears h2 c7, Option.bind_some, if_neg (show ¬ xm c 4 i = 307 by omega), if_pos (show (0 : Int) = 0 from rfl), iw_likes h2 c7, Option.bind_some, if_neg (show ¬ xm c 4 i = 308 by omega), if_pos (show (0 : Int) = 0 from rfl), iw_may h2 c7, Option.bind_some, if_neg (show ¬ xm c 4 i = 309 by omega), if_pos (show (0 : Int) = 0 from rfl), iw_ushers h2 c7, Option.bind_some, if_neg (show ¬ xm c 4 i = 310 by omega), if_pos (show (0 : Int) = 0 from rfl), iw_bores h2 c7, Option.bind_some, if_neg (show ¬ xm c 4 i = 311 by omega), if_pos (show (0 : Int) = 0 from rfl), iw_keeps h2 c7, Option.bind_some, if_neg (show ¬ xm c 4 i = 312 by omega), if_pos (show (0 : Int) = 0 from rfl), iw_fee h2 c7, Option.bind_some, if_neg (show ¬ xm c 4 i = 313 by omega), if_pos (show (0 : Int) = 0 from rfl), iw_rain h2 c7, Option.bind_some, if_neg (show ¬ xm c 4 i = 314 by omega), if_pos (show (0 : Int) = 0 from rfl), blame_0 h2.2.2.2.1, Option.bind_some, h2.at, ← plc_1 c7]
    exact wp_some (wp_some (Or.inl (ST_bad (FE_fm (by decide)) fmC_K.C fmM_G.B FB.refl)))
theorem stmt_J {c : zX} {zd : Nat} {b i : Int} {mC mM : zM} (hL : LX c) (h : PS c zd b i mC mM) : wp (Pa_statement mC) (fun a => wp (M_statement mM) (fun r => ST2 c zd b mC mM a r)) := by
  by_cases ho : xm c 4 i < 300 ∨ 314 < xm c 4 i ∨ xm c 4 i = 301 ∨ xm c 4 i = 302 ∨ xm c 4 i = 303 ∨ xm c 4 i = 306
  · exact st_other hL h ho
  · rcases (by omega : xm c 4 i = 300 ∨ xm c 4 i = 304 ∨ xm c 4 i = 305 ∨ xm c 4 i = 307 ∨ xm c 4 i = 308 ∨ xm c 4 i = 309 ∨ xm c 4 i = 310 ∨ xm c 4 i = 311 ∨ xm c 4 i = 312 ∨ xm c 4 i = 313 ∨ xm c 4 i = 314) with k | k | k | k | k | k | k | k | k | k | k
    · exact st_beast hL h k
    · exact st_taste hL h k
    · exact st_guest hL h k
    · exact st_fears hL h k
    · exact st_likes hL h k
    · exact st_may hL h k
    · exact st_ushers hL h k
    · exact st_bores hL h k
    · exact st_keeps hL h k
    · exact st_fee hL h k
    · exact st_rain hL h k
/-- where the text ends -/
def LX2 (c : zX) : Prop := ∀ i, 0 ≤ i → i ≤ xl c → (xm c 4 i = 256 ↔ xm c 5 i = xN c)
theorem fin_skip {m : zM} {K : Int → Int → zM → Option zM} {q p x : Int} (h : Rn bB (m 1) (m 0 2) p q) (h0 : 0 ≤ p) (hN : m 0 2 ≤ 1600) : M_finishes_L17 K 1000000 x p m = K x q m := by
  have Q : ∀ (d n : Nat) (p' : Int), p' + (d : Int) = q → p ≤ p' → d < n → M_finishes_L17 K n x p' m = K x q m := by
    intro d
    induction d with
    | zero =>
      intro n p' hp h1 hn
      obtain ⟨n, rfl⟩ : ∃ k, n = k + 1 := ⟨n - 1, by omega⟩
      have e : p' = q := by omega
      subst e
      show M_finishes_B17 _ _ _ _ _ = _
      unfold M_finishes_B17
      by_cases c : p' < m 0 2
      · have w := h.end c
        rw [bB_f] at w
        rw [if_pos c, rd_ok (by omega) (by omega), if_neg (by omega), rd_ok (by omega) (by omega), if_neg (by omega)]
      · rw [if_neg c]
    | succ d ih =>
      intro n p' hp h1 hn
      obtain ⟨n, rfl⟩ : ∃ k, n = k + 1 := ⟨n - 1, by omega⟩
      obtain ⟨w1, w2⟩ := h.in h1 (by omega : p' < q)
      rw [bB_t] at w2
      have ih' := ih n (p' + 1) (by omega) (by omega) (by omega)
      show M_finishes_B17 _ _ _ _ _ = _
      unfold M_finishes_B17
      rw [if_pos w1, rd_ok (by omega) (by omega)]
      by_cases c : m 1 p' = 32
      · rw [if_pos c, wI_ok (by omega) (by omega)]
        exact ih'
      · rw [if_neg c, rd_ok (by omega) (by omega), if_pos (by omega), wI_ok (by omega) (by omega)]
        exact ih'
  exact Q (q - p).toNat 1000000 p (by have := h.1; omega) (by omega) (by have := h.2.1; omega)
theorem fin_F {m : zM} {x : Int} (h : 0 < m 0 8) : M_finishes x m = some m := by
  unfold M_finishes
  rw [lex_1 h, Option.bind_some, if_pos h]
def FI (c : zX) (x i : Int) (mC mM : zM) (a : Int × zM) (r : zM) : Prop := ((a.1 = 1 ∧ PC c (i + 1) a.2 ∧ ((PM c (i + 1) r ∧ (x = 80 → xm c 4 (i + 1) = 256)) ∨ (x = 80 ∧ xm c 4 (i + 1) ≠ 256 ∧ (∃ m, PM c (i + 1) m) ∧ r 0 8 = 6 ∧ r 0 9 = xm c 5 (i + 1)))) ∨ (a.1 = 0 ∧ FE a.2 r)) ∧ frK mC a.2 ∧ frG mM r
theorem fin_J {c : zX} {x i : Int} {mC mM : zM} (hL : LX c) (h2 : LX2 c) (h : PC c i mC) (hM : PM c i mM) : wp (Pa_token 59 mC) (fun a => wp (M_finishes x mM) (fun r => FI c x i mC mM a r)) := by
  have bi := hM.i0 hL
  by_cases c7 : xm c 4 i = 257
  · unfold Pa_token M_finishes
    rw [kind_ok hL h hM, Option.bind_some, if_neg (by omega), fail_ok hL h hM, Option.bind_some, lex_bad hM c7, Option.bind_some, if_pos (by rw [fmM_8]; decide)]
    exact wp_some (wp_some ⟨Or.inr ⟨rfl, FE_fm (by decide)⟩, fmC_K, fmM_G⟩)
  · have tk := tok_s (ch := 59) hL h hM (by decide)
    have must : ∀ (P : Prop), (xm c 4 i = 59 → x = 80 → xm c 4 (i + 1) = 256) → wp (Pa_token 59 mC) (fun a => wp ((M_must 59 mM).bind (fun r5 => some r5)) (fun r => FI c x i mC mM a r)) := by
      intro P hx
      obtain ⟨a, ea, r, er, w, f, g⟩ := tk
      refine ⟨a, ea, ?_⟩
      rw [er, Option.bind_some]
      refine wp_some ⟨?_, f, g⟩
      rcases w with ⟨w1, w2, w3⟩ | w
      · refine Or.inl ⟨w1, w2, Or.inl ⟨w3, fun e => hx ?_ e⟩⟩
        by_cases c59 : xm c 4 i = 59
        · exact c59
        · exfalso
          unfold Pa_token at ea
          rw [kind_ok hL h hM, Option.bind_some, if_neg c59, fail_ok hL h hM, Option.bind_some] at ea
          cases ea
          cases w1
      · exact Or.inr w
    have main : ∃ q, Rn bB (mM 1) (mM 0 2) (mM 0 5) q ∧ 0 ≤ mM 0 5 ∧ (i < xl c → q = xm c 5 (i + 1)) := by
      by_cases lt : i < xl c
      · have e := hL.1.2.2.2.1 (i + 1) (by omega) (by omega)
        refine ⟨xm c 5 (i + 1), ?_, by rw [hM.2.2.1 lt]; exact e.1, fun _ => rfl⟩
        rw [hM.2.2.2.2.2.1, hM.2.2.2.2.1, hM.2.2.1 lt]
        exact e.2.2.2.1
      · have k6 : xm c 4 i = 256 := by
          by_cases k : xm c 4 i = 256
          · exact k
          · exact absurd (hM.lt hL k c7) lt
        have eN := (h2 i bi.1 bi.2.2).mp k6
        have e5 : mM 0 5 = xN c := by
          rcases hM.2.1.2 with ⟨_, _, _, w⟩ | ⟨w, _⟩ | ⟨_, w, _⟩ | ⟨w, _⟩ | ⟨_, _, _, w⟩
          · rw [w, hM.at, eN]
          · omega
          · omega
          · omega
          · have := knd_b w
            omega
        refine ⟨xN c, ?_, by rw [e5]; exact hL.2.1, fun t => absurd t lt⟩
        rw [e5, hM.2.2.2.2.1]
        exact ⟨Int.le_refl _, Int.le_refl _, fun j j0 j1 => by omega, Or.inl rfl⟩
    obtain ⟨q, hq, q5, hqi⟩ := main
    have eF : M_finishes x mM = M_finishes_b53 x q mM := by
      unfold M_finishes
      rw [lex_ok hM c7, Option.bind_some, if_neg (show ¬ 0 < mM 0 8 by rw [hM.2.2.2.1]; decide), fin_skip hq q5 (by rw [hM.2.2.2.2.1]; exact hL.2.2)]
    rw [eF]
    unfold M_finishes_b53
    rw [isSign_ok hM c7 (by decide), Option.bind_some]
    by_cases c59 : xm c 4 i = 59
    · have lt := hM.lt hL (by omega) c7
      have hq1 := hqi lt
      rw [if_pos c59, if_neg (show ¬ (1 : Int) = 0 by decide)]
      by_cases c80 : x = 80
      · rw [if_pos c80]
        by_cases cq : q < mM 0 2
        · obtain ⟨m', em, pm, _⟩ := hM.step hL lt
          rw [if_pos cq, blame_0 hM.2.2.2.1, Option.bind_some, must_1 (by rw [fmM_8]; decide), Option.bind_some]
          unfold Pa_token
          rw [kind_ok hL h hM, Option.bind_some, if_pos c59, pf_ok, h.2, wI_ok (x := i + 1) (by omega) (by omega)]
          refine wp_some (wp_some ⟨Or.inl ⟨rfl, h.take, Or.inr ⟨c80, fun e => ?_, ⟨m', pm⟩, fmM_8, by rw [fmM_9, hq1]⟩⟩, frK.refl.put (by simp), fmM_G⟩)
          have := (h2 (i + 1) (by omega) (by omega)).mp e
          rw [hM.2.2.2.2.1] at cq
          omega
        · rw [if_neg cq]
          refine must True (fun _ _ => (h2 (i + 1) (by omega) (by omega)).mpr ?_)
          have := (hL.1.2.2.2.1 (i + 1) (by omega) (by omega)).2.2.1
          rw [hM.2.2.2.2.1] at cq
          omega
      · rw [if_neg c80]
        exact must True (fun _ e => absurd e c80)
    · rw [if_neg c59, if_pos (show (0 : Int) = 0 from rfl)]
      exact must True (fun e => absurd e c59)
theorem zoo_F {K : Int → zM → Option (Int × zM)} {n : Nat} {x : Int} {m : zM} (h : 0 < m 0 8) : M_zoo_L103 K (n + 1) x m = K x m := by
  show M_zoo_B103 _ _ _ _ = _
  unfold M_zoo_B103
  rw [if_neg (by omega)]
theorem parse_J {c : zX} {zd : Nat} {b : Int} {mC0 mM0 : zM} {K : Int → zM → Option (Int × zM)} (hL : LX c) (h2 : LX2 c) : ∀ (d n n' : Nat) (x i : Int) (mC mM : zM), x + (d : Int) = 80 → 0 ≤ x → d < n → d < n' → PS c zd b i mC mM → (x = 80 → xm c 4 i = 256) → frC zd mC0 mC → frB b mM0 mM → wp (Pa_parse_L36 n x mC) (fun a => ∃ (y : Int) (m' : zM), M_zoo_L103 K n' x mM = K y m' ∧ ((a.1 = y ∧ 0 ≤ y ∧ y ≤ 80 ∧ ∃ i', PS c zd b i' a.2 m') ∨ (a.1 = -1 ∧ FE a.2 m')) ∧ frC zd mC0 a.2 ∧ frB b mM0 m') := by
  intro d
  induction d with
  | zero =>
    intro n n' x i mC mM hx x0 hn hn' h h80 fc fb
    obtain ⟨n, rfl⟩ : ∃ k, n = k + 1 := ⟨n - 1, by omega⟩
    obtain ⟨n', rfl⟩ : ∃ k, n' = k + 1 := ⟨n' - 1, by omega⟩
    have k6 := h80 (by omega)
    have s0 : mM 0 3 = 0 := by
      rcases h.2.1.2.1.2 with ⟨_, w, _⟩ | ⟨w, _⟩ | ⟨_, w, _⟩ | ⟨w, _⟩ | ⟨_, _, _, w⟩
      · exact w
      · omega
      · omega
      · omega
      · have := knd_b w
        omega
    show wp (Pa_parse_B36 _ _ _) _
    unfold Pa_parse_B36
    rw [if_neg (by omega), kind_ok hL h.1 h.2.1, Option.bind_some, if_pos k6]
    refine wp_some ⟨x, mM, ?_, Or.inl ⟨rfl, x0, by omega, i, h⟩, fc, fb⟩
    show M_zoo_B103 _ _ _ _ = _
    unfold M_zoo_B103
    rw [if_pos h.2.1.2.2.2.1, if_pos s0]
  | succ d ih =>
    intro n n' x i mC mM hx x0 hn hn' h h80 fc fb
    obtain ⟨n, rfl⟩ : ∃ k, n = k + 1 := ⟨n - 1, by omega⟩
    obtain ⟨n', rfl⟩ : ∃ k, n' = k + 1 := ⟨n' - 1, by omega⟩
    obtain ⟨n'', rfl⟩ : ∃ k, n' = k + 1 := ⟨n' - 1, by omega⟩
    show wp (Pa_parse_B36 _ _ _) (fun a => ∃ (y : Int) (m' : zM), M_zoo_B103 K (M_zoo_L103 K (n'' + 1)) x mM = K y m' ∧ _)
    unfold Pa_parse_B36 M_zoo_B103
    rw [if_neg (by omega), kind_ok hL h.1 h.2.1, Option.bind_some, if_pos h.2.1.2.2.2.1]
    by_cases k6 : xm c 4 i = 256
    · have s0 : mM 0 3 = 0 := by
        rcases h.2.1.2.1.2 with ⟨_, w, _⟩ | ⟨w, _⟩ | ⟨_, w, _⟩ | ⟨w, _⟩ | ⟨_, _, _, w⟩
        · exact w
        · omega
        · omega
        · omega
        · have := knd_b w
          omega
      rw [if_pos k6, if_pos s0]
      exact wp_some ⟨x, mM, rfl, Or.inl ⟨rfl, x0, by omega, i, h⟩, fc, fb⟩
    · have s0 : mM 0 3 ≠ 0 := by
        rcases h.2.1.2.1.2 with ⟨w, _⟩ | ⟨_, _, _, w⟩ | ⟨_, _, w, _⟩ | ⟨_, w, _⟩ | ⟨w, _⟩
        · exact absurd w k6
        · exact w
        · omega
        · omega
        · omega
      rw [if_neg k6, if_neg (by omega), if_neg s0, wI_ok (x := x + 1) (by omega) (by omega)]
      obtain ⟨a, ea, r, er, st⟩ := stmt_J hL h
      rw [ea, Option.bind_some, er, Option.bind_some]
      have bad : ∀ p : zM, FE p r → frC zd mC0 p → frB b mM0 r → wp (some ((-1 : Int), p)) (fun a => ∃ (y : Int) (m' : zM), (M_finishes (x + 1) r).bind (fun r8 => M_zoo_L103 K (n'' + 1) (x + 1) r8) = K y m' ∧ ((a.1 = y ∧ 0 ≤ y ∧ y ≤ 80 ∧ ∃ i', PS c zd b i' a.2 m') ∨ (a.1 = -1 ∧ FE a.2 m')) ∧ frC zd mC0 a.2 ∧ frB b mM0 m') := by
        intro p hp f1 f2
        refine wp_some ⟨x + 1, r, ?_, Or.inr ⟨rfl, hp⟩, f1, f2⟩
        rw [fin_F hp.2.2, Option.bind_some, zoo_F hp.2.2]
      rcases st with ⟨st, f1, g1⟩ | ⟨a1, ⟨i1, m1, p1, p2, p3, p4, p5⟩, f1, g1⟩
      · rcases st with ⟨a1, i1, p1, p2, p3⟩ | ⟨a1, p1⟩
        · rw [if_neg (by omega)]
          obtain ⟨a2, ea2, r2, er2, w, f2, g2⟩ := fin_J (x := x + 1) hL h2 p1 p2
          rw [ea2, Option.bind_some, er2, Option.bind_some]
          have F2 := (fc.trans f1).trans f2.C
          have G2 := (fb.trans g1).trans g2.B
          rcases w with ⟨w1, w2, w3⟩ | ⟨w1, w2⟩
          · rw [if_neg (by omega)]
            rcases w3 with ⟨w4, w5⟩ | ⟨w4, w5, ⟨m5, w6⟩, w7, w8⟩
            · have up := hL.up (i := i1) (j := i1 + 1) p2.1.1 (by omega) w4.1.2
              exact ih n (n'' + 1) (x + 1) (i1 + 1) a2.2 r2 (by omega) (by omega) (by omega) (by omega) ⟨w2, w4, p3.G f2 g2 up⟩ w5 F2 G2
            · obtain ⟨n, rfl⟩ : ∃ k, n = k + 1 := ⟨n - 1, by omega⟩
              show wp (Pa_parse_B36 _ _ _) _
              unfold Pa_parse_B36
              rw [if_neg (by omega), kind_ok hL w2 w6, Option.bind_some, if_neg w5, if_pos w4, fail_ok hL w2 w6, Option.bind_some]
              refine wp_some ⟨x + 1, r2, zoo_F (by omega), Or.inr ⟨rfl, (fmC_1 (m := a2.2) (k := 6) (p := plc c 6 (i1 + 1))).trans w7.symm, ?_, by omega⟩, F2.trans fmC_K.C, G2⟩
              have ep : plc c 6 (i1 + 1) = xm c 5 (i1 + 1) := if_neg (fun x => absurd x.1 (by decide))
              exact ((fmC_2 (m := a2.2) (k := 6) (p := plc c 6 (i1 + 1))).trans ep).trans w8.symm
          · rw [if_pos w1]
            exact wp_some ⟨x + 1, r2, zoo_F w2.2.2, Or.inr ⟨rfl, w2⟩, F2, G2⟩
        · rw [if_pos a1]
          exact bad a.2 p1 (fc.trans f1) (fb.trans g1)
      · rw [if_neg (by omega)]
        have et : Pa_token 59 a.2 = some (0, fmC a.2 1 (plc c 1 i1)) := by
          unfold Pa_token
          rw [kind_ok hL p1 p2, Option.bind_some, if_neg (by omega), fail_ok hL p1 p2, Option.bind_some]
        rw [et, Option.bind_some, if_pos rfl]
        exact bad (fmC a.2 1 (plc c 1 i1)) ⟨(fmC_1 (m := a.2) (k := 1) (p := plc c 1 i1)).trans p4.symm, (fmC_2 (m := a.2) (k := 1) (p := plc c 1 i1)).trans p5.symm, by omega⟩ ((fc.trans f1).trans fmC_K.C) (fb.trans g1)
