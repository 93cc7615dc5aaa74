def C_refuse (x1 : Int) (m : zM) : Option (Int × zM) :=
  rd 54 6 x1 m (fun y1 =>
  wr 54 6 x1 (wI (y1 + 1)) m (fun m2 =>
  some ((-1), m2)))
def Ta_put_B3 (rec : Int → Int → zM → Option (zM)) (x1 : Int) (x2 : Int) (m : zM) : Option (zM) :=
  (if x2 < 0 then
  some m
  else (if m 2 1 < 1600 then
  wr 3 1600 (m 2 1) (anI (usI x1 x2) 255) m (fun m5 =>
  pf 2 1 (wI ((m5 2 1) + 1)) m5 (fun m7 =>
  rec x1 (wI (x2 + (-8))) m7))
  else some m))
def Ta_put_L3  : Nat → Int → Int → zM → Option (zM)
  | 0, _, _, _ => none
  | n + 1, x1, x2, m => Ta_put_B3 (Ta_put_L3 n) x1 x2 m
def Ta_put (x1 : Int) (m : zM) : Option (zM) :=
  Ta_put_L3 1000000 x1 24 m
def C_feed (x1 : Int) (x2 : Int) (x3 : Int) (x4 : Int) (x5 : Int) (m : zM) : Option (Int × zM) :=
  (if 1580 < m 2 1 then
  (C_refuse 0 m).bind (fun r3 =>
  some (r3.1, r3.2))
  else (Ta_put x1 m).bind (fun r6 =>
  (Ta_put x2 r6).bind (fun r9 =>
  (Ta_put x3 r9).bind (fun r12 =>
  (Ta_put x4 r12).bind (fun r15 =>
  (Ta_put x5 r15).bind (fun r18 =>
  some (r18 2 1, r18)))))))
def C_end (x1 : Int) (m : zM) : Option (Int × zM) :=
  (if x1 < 0 then
  (C_refuse 0 m).bind (fun r2 =>
  some (0, r2.2))
  else (if m 2 1 < x1 then
  (C_refuse 0 m).bind (fun r7 =>
  some (0, r7.2))
  else pf 2 1 x1 m (fun m10 =>
  some (1, m10))))
def Zo_clear (o0 : Nat) (m : zM) : Option (zM) :=
  pf o0 0 0 m (fun m1 =>
  pf o0 1 0 m1 (fun m2 =>
  pf (o0 + 11) 1 0 m2 (fun m3 =>
  pf (o0 + 14) 1 0 m3 (fun m4 =>
  pf o0 14 6 m4 (fun m5 =>
  pf o0 15 1 m5 (fun m6 =>
  pf o0 16 3 m6 (fun m7 =>
  pf o0 17 5 m7 (fun m8 =>
  pf o0 18 0 m8 (fun m9 =>
  some m9)))))))))
def Ta_skipBlanks_B0 (rec : zM → Option (zM)) (m : zM) : Option (zM) :=
  (if m 2 8 < m 2 1 then
  rd 3 1600 (m 2 8) m (fun y5 =>
  (if y5 = 32 then
  pf 2 8 (wI ((m 2 8) + 1)) m (fun m8 =>
  rec m8)
  else rd 3 1600 (m 2 8) m (fun y10 =>
  (if y10 = 10 then
  pf 2 8 (wI ((m 2 8) + 1)) m (fun m13 =>
  rec m13)
  else some m))))
  else some m)
def Ta_skipBlanks_L0  : Nat → zM → Option (zM)
  | 0, _ => none
  | n + 1, m => Ta_skipBlanks_B0 (Ta_skipBlanks_L0 n) m
def Ta_skipBlanks (m : zM) : Option (zM) :=
  Ta_skipBlanks_L0 1000000 m
def Ta_isLetter (x0 : Int) : Option (Int) :=
  (if x0 < 97 then
  some 0
  else (if 122 < x0 then
  some 0
  else some 1))
def Ta_isDigit (x0 : Int) : Option (Int) :=
  (if x0 < 48 then
  some 0
  else (if 57 < x0 then
  some 0
  else some 1))
def Ta_badHere (m : zM) : Option (Int × zM) :=
  pf 2 6 (m 2 8) m (fun m2 =>
  some (257, m2))
def Ta_padded_B4 (rec : Int → Int → Option (Int)) (x2 : Int) (x3 : Int) : Option (Int) :=
  (if x3 < 6 then
  lt (wI (x2 * 27)) (fun v2 =>
  rec v2 (wI (x3 + 1)))
  else some x2)
def Ta_padded_L4  : Nat → Int → Int → Option (Int)
  | 0, _, _ => none
  | n + 1, x2, x3 => Ta_padded_B4 (Ta_padded_L4 n) x2 x3
def Ta_padded (x0 : Int) (x1 : Int) : Option (Int) :=
  Ta_padded_L4 1000000 x0 x1
def Ta_scanWord_B4 (k77 : Int → Int → zM → Option (Int × zM)) (rec : Int → Int → zM → Option (Int × zM)) (x1 : Int) (x2 : Int) (m : zM) : Option (Int × zM) :=
  (if m 2 8 < m 2 1 then
  rd 3 1600 (m 2 8) m (fun y5 =>
  (Ta_isLetter y5).bind (fun r6 =>
  (if r6 = 0 then
  k77 x1 x2 m
  else (if x2 = 6 then
  (Ta_badHere m).bind (fun r11 =>
  some (r11.1, r11.2))
  else rd 3 1600 (m 2 8) m (fun y15 =>
  lt (wI ((wI ((wI ((wI (x1 * 27)) + y15)) - 97)) + 1)) (fun v16 =>
  pf 2 8 (wI ((m 2 8) + 1)) m (fun m18 =>
  rec v16 (wI (x2 + 1)) m18)))))))
  else k77 x1 x2 m)
def Ta_scanWord_L4 (k77 : Int → Int → zM → Option (Int × zM)) : Nat → Int → Int → zM → Option (Int × zM)
  | 0, _, _, _ => none
  | n + 1, x1, x2, m => Ta_scanWord_B4 k77 (Ta_scanWord_L4 k77 n) x1 x2 m
def Ta_scanWord_B95 (rec : Int → Int → zM → Option (Int × zM)) (x1 : Int) (x3 : Int) (m : zM) : Option (Int × zM) :=
  (if x3 < 30 then
  rd 7 30 x3 m (fun y2 =>
  (if y2 = x1 then
  some (wI (300 + x3), m)
  else rec x1 (wI (x3 + 1)) m))
  else some (258, m))
def Ta_scanWord_L95  : Nat → Int → Int → zM → Option (Int × zM)
  | 0, _, _, _ => none
  | n + 1, x1, x3, m => Ta_scanWord_B95 (Ta_scanWord_L95 n) x1 x3 m
def Ta_scanWord_b77 (x1 : Int) (x2 : Int) (m : zM) : Option (Int × zM) :=
  (Ta_padded x1 x2).bind (fun r1 =>
  wr 6 1601 (m 2 5) r1 m (fun m5 =>
  Ta_scanWord_L95 1000000 r1 0 m5))
def Ta_scanWord (m : zM) : Option (Int × zM) :=
  Ta_scanWord_L4 (fun x1_1 x2_1 m2 => Ta_scanWord_b77 x1_1 x2_1 m2) 1000000 0 0 m
def Ta_scanNumber_B4 (rec : Int → Int → zM → Option (Int × zM)) (x1 : Int) (x2 : Int) (m : zM) : Option (Int × zM) :=
  (if m 2 8 < m 2 1 then
  rd 3 1600 (m 2 8) m (fun y5 =>
  (Ta_isDigit y5).bind (fun r6 =>
  (if r6 = 0 then
  wr 6 1601 (m 2 5) x1 m (fun m11 =>
  some (259, m11))
  else (if x2 = 4 then
  (Ta_badHere m).bind (fun r13 =>
  some (r13.1, r13.2))
  else rd 3 1600 (m 2 8) m (fun y17 =>
  lt (wI ((wI ((wI (x1 * 10)) + y17)) - 48)) (fun v18 =>
  pf 2 8 (wI ((m 2 8) + 1)) m (fun m20 =>
  rec v18 (wI (x2 + 1)) m20)))))))
  else wr 6 1601 (m 2 5) x1 m (fun m22 =>
  some (259, m22)))
def Ta_scanNumber_L4  : Nat → Int → Int → zM → Option (Int × zM)
  | 0, _, _, _ => none
  | n + 1, x1, x2, m => Ta_scanNumber_B4 (Ta_scanNumber_L4 n) x1 x2 m
def Ta_scanNumber (m : zM) : Option (Int × zM) :=
  Ta_scanNumber_L4 1000000 0 0 m
def Ta_scan_b94 (x1 : Int) (m : zM) : Option (Int × zM) :=
  (if x1 = 0 then
  rd 3 1600 (m 2 8) m (fun y3 =>
  (Ta_isLetter y3).bind (fun r4 =>
  (if r4 = 0 then
  (Ta_scanNumber m).bind (fun r8 =>
  wr 4 1601 (r8.2 2 5) r8.1 r8.2 (fun m12 =>
  some (r8.1, m12)))
  else (Ta_scanWord m).bind (fun r13 =>
  wr 4 1601 (r13.2 2 5) r13.1 r13.2 (fun m17 =>
  some (r13.1, m17))))))
  else (Ta_badHere m).bind (fun r18 =>
  wr 4 1601 (r18.2 2 5) r18.1 r18.2 (fun m22 =>
  some (r18.1, m22))))
def Ta_scan (x1 : Int) (m : zM) : Option (Int × zM) :=
  wr 5 1601 (m 2 5) (m 2 8) m (fun m3 =>
  wr 6 1601 (m3 2 5) 0 m3 (fun m5 =>
  (if m5 2 8 < m5 2 1 then
  rd 3 1600 (m5 2 8) m5 (fun y10 =>
  (Ta_isLetter y10).bind (fun r11 =>
  (if r11 = 0 then
  rd 3 1600 (m5 2 8) m5 (fun y16 =>
  (Ta_isDigit y16).bind (fun r17 =>
  (if r17 = 0 then
  rd 3 1600 (m5 2 8) m5 (fun y22 =>
  pf 2 8 (wI ((m5 2 8) + 1)) m5 (fun m24 =>
  wr 4 1601 (m24 2 5) y22 m24 (fun m26 =>
  some (y22, m26))))
  else Ta_scan_b94 x1 m5)))
  else Ta_scan_b94 x1 m5)))
  else wr 4 1601 (m5 2 5) 256 m5 (fun m28 =>
  some (256, m28)))))
def Ta_split_b39 (rec : Int → Int → zM → Option (zM)) (x2 : Int) (s1 : Int) (m : zM) : Option (zM) :=
  (Ta_scan s1 m).bind (fun r1 =>
  pf 2 5 (wI (x2 + 1)) r1.2 (fun m4 =>
  (if r1.1 = 256 then
  some m4
  else (if r1.1 = 257 then
  some m4
  else (if r1.1 < 258 then
  rec ((-1)) (wI (x2 + 1)) m4
  else rec (m4 2 8) (wI (x2 + 1)) m4)))))
def Ta_split_B14 (rec : Int → Int → zM → Option (zM)) (x1 : Int) (x2 : Int) (m : zM) : Option (zM) :=
  (if 1600 < x2 then
  some m
  else (Ta_skipBlanks m).bind (fun r2 =>
  (if r2 2 8 = x1 then
  Ta_split_b39 rec x2 1 r2
  else Ta_split_b39 rec x2 0 r2)))
def Ta_split_L14  : Nat → Int → Int → zM → Option (zM)
  | 0, _, _, _ => none
  | n + 1, x1, x2, m => Ta_split_B14 (Ta_split_L14 n) x1 x2 m
def Ta_split (m : zM) : Option (zM) :=
  pf 2 8 0 m (fun m1 =>
  pf 2 5 0 m1 (fun m2 =>
  Ta_split_L14 1000000 ((-1)) 0 m2))
def Pa_kind (m : zM) : Option (Int) :=
  rd 4 1601 (m 1 7) m (fun y2 =>
  some y2)
def Pa_fail (x1 : Int) (m : zM) : Option (Int × zM) :=
  pf 1 1 x1 m (fun m1 =>
  (if x1 = 1 then
  rd 4 1601 (m1 1 7) m1 (fun y4 =>
  (if y4 = 257 then
  pf 1 2 (m1 2 6) m1 (fun m7 =>
  some (0, m7))
  else rd 5 1601 (m1 1 7) m1 (fun y9 =>
  pf 1 2 y9 m1 (fun m10 =>
  some (0, m10)))))
  else rd 5 1601 (m1 1 7) m1 (fun y12 =>
  pf 1 2 y12 m1 (fun m13 =>
  some (0, m13)))))
def Zo_beastCalled_B2 (rec : Nat → Int → Int → Option (Int)) (o0 : Nat) (x1 : Int) (x2 : Int) (m : zM) : Option (Int) :=
  (if x2 < m o0 0 then
  rd (o0 + 1) 6 x2 m (fun y3 =>
  (if y3 = x1 then
  some x2
  else rec o0 x1 (wI (x2 + 1))))
  else some ((-1)))
def Zo_beastCalled_L2 (m : zM) : Nat → Nat → Int → Int → Option (Int)
  | 0, _, _, _ => none
  | n + 1, o0, x1, x2 => Zo_beastCalled_B2 (Zo_beastCalled_L2 m n) o0 x1 x2 m
def Zo_beastCalled (o0 : Nat) (x1 : Int) (m : zM) : Option (Int) :=
  Zo_beastCalled_L2 m 1000000 o0 x1 0
def Zo_guestCalled_B2 (rec : Nat → Int → Int → Option (Int)) (o0 : Nat) (x1 : Int) (x2 : Int) (m : zM) : Option (Int) :=
  (if x2 < m o0 1 then
  rd (o0 + 6) 8 x2 m (fun y3 =>
  (if y3 = x1 then
  some x2
  else rec o0 x1 (wI (x2 + 1))))
  else some ((-1)))
def Zo_guestCalled_L2 (m : zM) : Nat → Nat → Int → Int → Option (Int)
  | 0, _, _, _ => none
  | n + 1, o0, x1, x2 => Zo_guestCalled_B2 (Zo_guestCalled_L2 m n) o0 x1 x2 m
def Zo_guestCalled (o0 : Nat) (x1 : Int) (m : zM) : Option (Int) :=
  Zo_guestCalled_L2 m 1000000 o0 x1 0
def Pa_newName (m : zM) : Option (Int × zM) :=
  (Pa_kind m).bind (fun r1 =>
  (if r1 = 258 then
  rd 6 1601 (m 1 7) m (fun y6 =>
  pf 1 8 y6 m (fun m7 =>
  mro kdC 10 (m7 1 3) (fun zz8 =>
  (Zo_beastCalled zz8 (m7 1 8) m7).bind (fun r10 =>
  (if r10 = (-1) then
  mro kdC 10 (m7 1 3) (fun zz14 =>
  (Zo_guestCalled zz14 (m7 1 8) m7).bind (fun r16 =>
  (if r16 = (-1) then
  pf 1 7 (wI ((m7 1 7) + 1)) m7 (fun m21 =>
  some (1, m21))
  else (Pa_fail 2 m7).bind (fun r22 =>
  some (r22.1, r22.2)))))
  else (Pa_fail 2 m7).bind (fun r25 =>
  some (r25.1, r25.2)))))))
  else (Pa_fail 1 m).bind (fun r28 =>
  some (r28.1, r28.2))))
def Pa_token (x1 : Int) (m : zM) : Option (Int × zM) :=
  (Pa_kind m).bind (fun r1 =>
  (if r1 = x1 then
  pf 1 7 (wI ((m 1 7) + 1)) m (fun m6 =>
  some (1, m6))
  else (Pa_fail 1 m).bind (fun r7 =>
  some (r7.1, r7.2))))
def Pa_number (x1 : Int) (x2 : Int) (m : zM) : Option (Int × zM) :=
  (Pa_kind m).bind (fun r1 =>
  (if r1 = 259 then
  rd 6 1601 (m 1 7) m (fun y6 =>
  pf 1 8 y6 m (fun m7 =>
  (if m7 1 8 < x1 then
  (Pa_fail 4 m7).bind (fun r10 =>
  some (r10.1, r10.2))
  else (if x2 < m7 1 8 then
  (Pa_fail 4 m7).bind (fun r15 =>
  some (r15.1, r15.2))
  else pf 1 7 (wI ((m7 1 7) + 1)) m7 (fun m19 =>
  some (1, m19))))))
  else (Pa_fail 1 m).bind (fun r20 =>
  some (r20.1, r20.2))))
def C_setTriple (a0 : Nat) (n0 : Nat) (x1 : Int) (x2 : Int) (x3 : Int) (x4 : Int) (m : zM) : Option (zM) :=
  wr a0 n0 x1 x2 m (fun m1 =>
  wr a0 n0 (wI (x1 + 1)) x3 m1 (fun m2 =>
  wr a0 n0 (wI (x1 + 2)) x4 m2 (fun m3 =>
  some m3)))
def Zo_addBeast (o0 : Nat) (x1 : Int) (x2 : Int) (x3 : Int) (x4 : Int) (m : zM) : Option (zM) :=
  (if m o0 0 < 6 then
  wr (o0 + 1) 6 (m o0 0) x1 m (fun m4 =>
  wr (o0 + 2) 6 (m4 o0 0) x2 m4 (fun m6 =>
  wr (o0 + 3) 6 (m6 o0 0) x3 m6 (fun m8 =>
  wr (o0 + 4) 6 (m8 o0 0) x4 m8 (fun m10 =>
  (C_setTriple (o0 + 5) 18 (wI ((m10 o0 0) * 3)) 1 1 1 m10).bind (fun r12 =>
  pf o0 0 (wI ((r12 o0 0) + 1)) r12 (fun m16 =>
  some m16))))))
  else some m)
def Pa_beastStatement (m : zM) : Option (Int × zM) :=
  mro kdC 10 (m 1 3) (fun zz1 =>
  (if m zz1 0 < 6 then
  pf 1 7 (wI ((m 1 7) + 1)) m (fun m5 =>
  (Pa_newName m5).bind (fun r6 =>
  (if r6.1 = 0 then
  some (0, r6.2)
  else (Pa_token 301 r6.2).bind (fun r11 =>
  (if r11.1 = 0 then
  some (0, r11.2)
  else (Pa_number 0 23 r11.2).bind (fun r15 =>
  (if r15.1 = 0 then
  some (0, r15.2)
  else (Pa_token 302 r15.2).bind (fun r20 =>
  (if r20.1 = 0 then
  some (0, r20.2)
  else (Pa_number (r15.2 1 8) 23 r20.2).bind (fun r24 =>
  (if r24.1 = 0 then
  some (0, r24.2)
  else (Pa_token 303 r24.2).bind (fun r29 =>
  (if r29.1 = 0 then
  some (0, r29.2)
  else (Pa_number 0 99 r29.2).bind (fun r33 =>
  (if r33.1 = 0 then
  some (0, r33.2)
  else mro kdC 10 (r33.2 1 3) (fun zz37 =>
  (Zo_addBeast zz37 (r6.2 1 8) (r15.2 1 8) (r24.2 1 8) (r33.2 1 8) r33.2).bind (fun r39 =>
  some (1, r39))))))))))))))))))
  else (Pa_fail 6 m).bind (fun r42 =>
  some (r42.1, r42.2))))
def Pa_knownBeast (m : zM) : Option (Int × zM) :=
  (Pa_kind m).bind (fun r1 =>
  (if r1 = 258 then
  mro kdC 10 (m 1 3) (fun zz5 =>
  rd 6 1601 (m 1 7) m (fun y7 =>
  (Zo_beastCalled zz5 y7 m).bind (fun r8 =>
  pf 1 8 r8 m (fun m11 =>
  (if m11 1 8 = (-1) then
  (Pa_fail 3 m11).bind (fun r14 =>
  some (r14.1, r14.2))
  else pf 1 7 (wI ((m11 1 7) + 1)) m11 (fun m18 =>
  some (1, m18)))))))
  else (Pa_fail 1 m).bind (fun r19 =>
  some (r19.1, r19.2))))
def Pa_triple_B2 (rec : Nat → Nat → Int → Int → zM → Option (Int × zM)) (a1 : Nat) (n1 : Nat) (x2 : Int) (x3 : Int) (m : zM) : Option (Int × zM) :=
  (if x3 < 3 then
  (Pa_number 0 9 m).bind (fun r2 =>
  (if r2.1 = 0 then
  some (0, r2.2)
  else wr a1 n1 (wI (x2 + x3)) (r2.2 1 8) r2.2 (fun m7 =>
  rec a1 n1 x2 (wI (x3 + 1)) m7)))
  else some (1, m))
def Pa_triple_L2  : Nat → Nat → Nat → Int → Int → zM → Option (Int × zM)
  | 0, _, _, _, _, _ => none
  | n + 1, a1, n1, x2, x3, m => Pa_triple_B2 (Pa_triple_L2 n) a1 n1 x2 x3 m
def Pa_triple (a1 : Nat) (n1 : Nat) (x2 : Int) (m : zM) : Option (Int × zM) :=
  Pa_triple_L2 1000000 a1 n1 x2 0 m
def Pa_tasteStatement (m : zM) : Option (Int × zM) :=
  pf 1 7 (wI ((m 1 7) + 1)) m (fun m2 =>
  (Pa_knownBeast m2).bind (fun r3 =>
  (if r3.1 = 0 then
  some (0, r3.2)
  else mro kdC 10 (r3.2 1 3) (fun zz7 =>
  (Pa_triple (zz7 + 5) 18 (wI ((r3.2 1 8) * 3)) r3.2).bind (fun r9 =>
  some (r9.1, r9.2))))))
def Zo_addGuest (o0 : Nat) (x1 : Int) (x2 : Int) (x3 : Int) (m : zM) : Option (zM) :=
  (if m o0 1 < 8 then
  wr (o0 + 6) 8 (m o0 1) x1 m (fun m4 =>
  wr (o0 + 7) 8 (m4 o0 1) x2 m4 (fun m6 =>
  wr (o0 + 8) 8 (m6 o0 1) x3 m6 (fun m8 =>
  wr (o0 + 9) 8 (m8 o0 1) 0 m8 (fun m10 =>
  pf o0 1 (wI ((m10 o0 1) + 1)) m10 (fun m12 =>
  some m12)))))
  else some m)
def Pa_guestStatement (m : zM) : Option (Int × zM) :=
  mro kdC 10 (m 1 3) (fun zz1 =>
  (if m zz1 1 < 8 then
  pf 1 7 (wI ((m 1 7) + 1)) m (fun m5 =>
  (Pa_newName m5).bind (fun r6 =>
  (if r6.1 = 0 then
  some (0, r6.2)
  else mro kdC 10 (r6.2 1 3) (fun zz11 =>
  mro kdC 10 (r6.2 1 3) (fun zz12 =>
  (Pa_triple (zz11 + 10) 24 (wI ((r6.2 zz12 1) * 3)) r6.2).bind (fun r14 =>
  (if r14.1 = 0 then
  some (0, r14.2)
  else (Pa_token 306 r14.2).bind (fun r18 =>
  (if r18.1 = 0 then
  some (0, r18.2)
  else (Pa_number 0 23 r18.2).bind (fun r22 =>
  (if r22.1 = 0 then
  some (0, r22.2)
  else (Pa_token 302 r22.2).bind (fun r27 =>
  (if r27.1 = 0 then
  some (0, r27.2)
  else (Pa_number (r22.2 1 8) 23 r27.2).bind (fun r31 =>
  (if r31.1 = 0 then
  some (0, r31.2)
  else mro kdC 10 (r31.2 1 3) (fun zz35 =>
  (Zo_addGuest zz35 (r6.2 1 8) (r22.2 1 8) (r31.2 1 8) r31.2).bind (fun r37 =>
  some (1, r37))))))))))))))))))
  else (Pa_fail 6 m).bind (fun r40 =>
  some (r40.1, r40.2))))
def Pa_knownGuest (m : zM) : Option (Int × zM) :=
  (Pa_kind m).bind (fun r1 =>
  (if r1 = 258 then
  mro kdC 10 (m 1 3) (fun zz5 =>
  rd 6 1601 (m 1 7) m (fun y7 =>
  (Zo_guestCalled zz5 y7 m).bind (fun r8 =>
  pf 1 8 r8 m (fun m11 =>
  (if m11 1 8 = (-1) then
  (Pa_fail 3 m11).bind (fun r14 =>
  some (r14.1, r14.2))
  else pf 1 7 (wI ((m11 1 7) + 1)) m11 (fun m18 =>
  some (1, m18)))))))
  else (Pa_fail 1 m).bind (fun r19 =>
  some (r19.1, r19.2))))
def Zo_isFeared (o0 : Nat) (x1 : Int) (x2 : Int) (m : zM) : Option (Int) :=
  rd (o0 + 9) 8 x2 m (fun y1 =>
  (if anI (srI y1 x1) 1 = 0 then
  some 0
  else some 1))
def Pa_fearStatement (m : zM) : Option (Int × zM) :=
  pf 1 7 (wI ((m 1 7) + 1)) m (fun m2 =>
  (Pa_knownGuest m2).bind (fun r3 =>
  (if r3.1 = 0 then
  some (0, r3.2)
  else (Pa_knownBeast r3.2).bind (fun r8 =>
  (if r8.1 = 0 then
  some (0, r8.2)
  else mro kdC 10 (r8.2 1 3) (fun zz12 =>
  (Zo_isFeared zz12 (r8.2 1 8) (r3.2 1 8) r8.2).bind (fun r14 =>
  (if r14 = 0 then
  mro kdC 10 (r8.2 1 3) (fun zz18 =>
  rd (zz18 + 9) 8 (r3.2 1 8) r8.2 (fun y19 =>
  wr (zz18 + 9) 8 (r3.2 1 8) (orI y19 (slI 1 (r8.2 1 8))) r8.2 (fun m21 =>
  some (1, m21))))
  else pf 1 7 (wI ((r8.2 1 7) - 1)) r8.2 (fun m23 =>
  (Pa_fail 3 m23).bind (fun r24 =>
  some (r24.1, r24.2)))))))))))
def Fo_add (o0 : Nat) (x1 : Int) (x2 : Int) (m : zM) : Option (zM) :=
  (if m o0 1 < 1600 then
  wr (o0 + 1) 1600 (m o0 1) (orI (slI x2 8) x1) m (fun m4 =>
  pf o0 1 (wI ((m4 o0 1) + 1)) m4 (fun m6 =>
  some m6))
  else some m)
def Pa_sum_b37 (rc : Nat → Int → zM → Option (Int × zM)) (rec : Int → zM → Option (Int × zM)) (x1 : Int) (x2 : Int) (m : zM) : Option (Int × zM) :=
  pf 1 7 (wI ((m 1 7) + 1)) m (fun m2 =>
  (rc 1 0 m2).bind (fun r3 =>
  (if r3.1 = 0 then
  some (0, r3.2)
  else mro kdC 1 (r3.2 1 4) (fun zz7 =>
  (Fo_add zz7 x2 0 r3.2).bind (fun r8 =>
  rec (wI (x1 + 1)) r8)))))
def Pa_sum_B11 (rc : Nat → Int → zM → Option (Int × zM)) (rec : Int → zM → Option (Int × zM)) (x1 : Int) (m : zM) : Option (Int × zM) :=
  (if x1 < 1600 then
  (Pa_kind m).bind (fun r2 =>
  (if r2 = 43 then
  Pa_sum_b37 rc rec x1 r2 m
  else (if r2 = 45 then
  Pa_sum_b37 rc rec x1 r2 m
  else some (1, m))))
  else some (1, m))
def Pa_sum_L11 (rc : Nat → Int → zM → Option (Int × zM)) : Nat → Int → zM → Option (Int × zM)
  | 0, _, _ => none
  | n + 1, x1, m => Pa_sum_B11 rc (Pa_sum_L11 rc n) x1 m
def Pa_sum (rc : Nat → Int → zM → Option (Int × zM)) (m : zM) : Option (Int × zM) :=
  (rc 1 0 m).bind (fun r1 =>
  (if r1.1 = 0 then
  some (0, r1.2)
  else Pa_sum_L11 rc 1000000 0 r1.2))
def Pa_product_b43 (rc : Nat → Int → zM → Option (Int × zM)) (rec : Int → zM → Option (Int × zM)) (x1 : Int) (x2 : Int) (m : zM) : Option (Int × zM) :=
  pf 1 7 (wI ((m 1 7) + 1)) m (fun m2 =>
  (rc 2 0 m2).bind (fun r3 =>
  (if r3.1 = 0 then
  some (0, r3.2)
  else mro kdC 1 (r3.2 1 4) (fun zz7 =>
  (Fo_add zz7 x2 0 r3.2).bind (fun r8 =>
  rec (wI (x1 + 1)) r8)))))
def Pa_product_B11 (rc : Nat → Int → zM → Option (Int × zM)) (rec : Int → zM → Option (Int × zM)) (x1 : Int) (m : zM) : Option (Int × zM) :=
  (if x1 < 1600 then
  (Pa_kind m).bind (fun r2 =>
  (if r2 = 42 then
  Pa_product_b43 rc rec x1 r2 m
  else (if r2 = 47 then
  Pa_product_b43 rc rec x1 r2 m
  else (if r2 = 37 then
  Pa_product_b43 rc rec x1 r2 m
  else some (1, m)))))
  else some (1, m))
def Pa_product_L11 (rc : Nat → Int → zM → Option (Int × zM)) : Nat → Int → zM → Option (Int × zM)
  | 0, _, _ => none
  | n + 1, x1, m => Pa_product_B11 rc (Pa_product_L11 rc n) x1 m
def Pa_product (rc : Nat → Int → zM → Option (Int × zM)) (m : zM) : Option (Int × zM) :=
  (rc 2 0 m).bind (fun r1 =>
  (if r1.1 = 0 then
  some (0, r1.2)
  else Pa_product_L11 rc 1000000 0 r1.2))
def Pa_opening (x1 : Int) (m : zM) : Option (Int × zM) :=
  (Pa_kind m).bind (fun r1 =>
  (if r1 = x1 then
  (if m 1 6 < 7 then
  pf 1 6 (wI ((m 1 6) + 1)) m (fun m8 =>
  pf 1 7 (wI ((m8 1 7) + 1)) m8 (fun m10 =>
  some (1, m10)))
  else (Pa_fail 5 m).bind (fun r11 =>
  some (r11.1, r11.2)))
  else (Pa_fail 1 m).bind (fun r14 =>
  some (r14.1, r14.2))))
def Pa_closing (x1 : Int) (m : zM) : Option (Int × zM) :=
  pf 1 6 (wI ((m 1 6) - 1)) m (fun m2 =>
  (Pa_token x1 m2).bind (fun r3 =>
  some (r3.1, r3.2)))
def Pa_scenePart_b87 (x2 : Int) (m : zM) : Option (Int × zM) :=
  (if x2 = (-1) then
  (Pa_fail 1 m).bind (fun r2 =>
  some (r2.1, r2.2))
  else mro kdC 1 (m 1 4) (fun zz5 =>
  (Fo_add zz5 2 x2 m).bind (fun r6 =>
  pf 1 7 (wI ((r6 1 7) + 1)) r6 (fun m10 =>
  some (1, m10)))))
def Pa_scenePart_b70 (x1 : Int) (x2 : Int) (m : zM) : Option (Int × zM) :=
  (if m 1 5 = 0 then
  Pa_scenePart_b87 x2 m
  else (if x1 = 322 then
  Pa_scenePart_b87 8 m
  else Pa_scenePart_b87 x2 m))
def Pa_scenePart_b50 (x1 : Int) (x2 : Int) (m : zM) : Option (Int × zM) :=
  (if m 1 5 = 0 then
  Pa_scenePart_b70 x1 x2 m
  else (if x1 = 307 then
  Pa_scenePart_b87 7 m
  else Pa_scenePart_b70 x1 x2 m))
def Pa_scenePart_b30 (x1 : Int) (x2 : Int) (m : zM) : Option (Int × zM) :=
  (if m 1 5 = 0 then
  Pa_scenePart_b50 x1 x2 m
  else (if x1 = 321 then
  Pa_scenePart_b87 6 m
  else Pa_scenePart_b50 x1 x2 m))
def Pa_scenePart (m : zM) : Option (Int × zM) :=
  (Pa_kind m).bind (fun r1 =>
  (if r1 < 315 then
  Pa_scenePart_b30 r1 ((-1)) m
  else (if 320 < r1 then
  Pa_scenePart_b30 r1 ((-1)) m
  else lt (wI (r1 - 315)) (fun v6 =>
  Pa_scenePart_b87 v6 m))))
def Pa_part (rc : Nat → Int → zM → Option (Int × zM)) (m : zM) : Option (Int × zM) :=
  (Pa_kind m).bind (fun r1 =>
  (if r1 = 40 then (Pa_opening 40 m).bind (fun r9 =>
  (if r9.1 = 0 then
  some (0, r9.2)
  else (rc 0 0 r9.2).bind (fun r13 =>
  (if r13.1 = 0 then
  some (0, r13.2)
  else (Pa_closing 41 r13.2).bind (fun r17 =>
  (if r17.1 = 0 then
  some (0, r17.2)
  else some (1, r17.2)))))))
  else if r1 = 259 then mro kdC 1 (m 1 4) (fun zz21 =>
  rd 6 1601 (m 1 7) m (fun y23 =>
  (Fo_add zz21 1 y23 m).bind (fun r24 =>
  pf 1 7 (wI ((r24 1 7) + 1)) r24 (fun m28 =>
  some (1, m28)))))
  else if r1 = 323 then (rc 4 0 m).bind (fun r29 =>
  some (r29.1, r29.2))
  else if r1 = 328 then (rc 3 3 m).bind (fun r32 =>
  some (r32.1, r32.2))
  else if r1 = 329 then (rc 3 4 m).bind (fun r35 =>
  some (r35.1, r35.2))
  else (Pa_scenePart m).bind (fun r38 =>
  some (r38.1, r38.2))))
def Pa_pairOfSums (rc : Nat → Int → zM → Option (Int × zM)) (x1 : Int) (m : zM) : Option (Int × zM) :=
  pf 1 7 (wI ((m 1 7) + 1)) m (fun m2 =>
  (Pa_opening 40 m2).bind (fun r3 =>
  (if r3.1 = 0 then
  some (0, r3.2)
  else (rc 0 0 r3.2).bind (fun r7 =>
  (if r7.1 = 0 then
  some (0, r7.2)
  else (Pa_token 44 r7.2).bind (fun r11 =>
  (if r11.1 = 0 then
  some (0, r11.2)
  else (rc 0 0 r11.2).bind (fun r15 =>
  (if r15.1 = 0 then
  some (0, r15.2)
  else (Pa_closing 41 r15.2).bind (fun r19 =>
  (if r19.1 = 0 then
  some (0, r19.2)
  else mro kdC 1 (r19.2 1 4) (fun zz23 =>
  (Fo_add zz23 x1 0 r19.2).bind (fun r24 =>
  some (1, r24))))))))))))))
def Pa_choice (rc : Nat → Int → zM → Option (Int × zM)) (m : zM) : Option (Int × zM) :=
  pf 1 7 (wI ((m 1 7) + 1)) m (fun m2 =>
  (Pa_opening 40 m2).bind (fun r3 =>
  (if r3.1 = 0 then
  some (0, r3.2)
  else (rc 5 0 r3.2).bind (fun r7 =>
  (if r7.1 = 0 then
  some (0, r7.2)
  else (Pa_token 44 r7.2).bind (fun r11 =>
  (if r11.1 = 0 then
  some (0, r11.2)
  else (rc 0 0 r11.2).bind (fun r15 =>
  (if r15.1 = 0 then
  some (0, r15.2)
  else (Pa_token 44 r15.2).bind (fun r19 =>
  (if r19.1 = 0 then
  some (0, r19.2)
  else (rc 0 0 r19.2).bind (fun r23 =>
  (if r23.1 = 0 then
  some (0, r23.2)
  else (Pa_closing 41 r23.2).bind (fun r27 =>
  (if r27.1 = 0 then
  some (0, r27.2)
  else mro kdC 1 (r27.2 1 4) (fun zz31 =>
  (Fo_add zz31 5 0 r27.2).bind (fun r32 =>
  some (1, r32))))))))))))))))))
def Pa_test_B11 (rc : Nat → Int → zM → Option (Int × zM)) (rec : Int → zM → Option (Int × zM)) (x1 : Int) (m : zM) : Option (Int × zM) :=
  (if x1 < 1600 then
  (Pa_kind m).bind (fun r2 =>
  (if r2 = 324 then
  pf 1 7 (wI ((m 1 7) + 1)) m (fun m7 =>
  (rc 6 0 m7).bind (fun r8 =>
  (if r8.1 = 0 then
  some (0, r8.2)
  else mro kdC 1 (r8.2 1 4) (fun zz12 =>
  (Fo_add zz12 8 0 r8.2).bind (fun r13 =>
  rec (wI (x1 + 1)) r13)))))
  else some (1, m)))
  else some (1, m))
def Pa_test_L11 (rc : Nat → Int → zM → Option (Int × zM)) : Nat → Int → zM → Option (Int × zM)
  | 0, _, _ => none
  | n + 1, x1, m => Pa_test_B11 rc (Pa_test_L11 rc n) x1 m
def Pa_test (rc : Nat → Int → zM → Option (Int × zM)) (m : zM) : Option (Int × zM) :=
  (rc 6 0 m).bind (fun r1 =>
  (if r1.1 = 0 then
  some (0, r1.2)
  else Pa_test_L11 rc 1000000 0 r1.2))
def Pa_both_B11 (rc : Nat → Int → zM → Option (Int × zM)) (rec : Int → zM → Option (Int × zM)) (x1 : Int) (m : zM) : Option (Int × zM) :=
  (if x1 < 1600 then
  (Pa_kind m).bind (fun r2 =>
  (if r2 = 325 then
  pf 1 7 (wI ((m 1 7) + 1)) m (fun m7 =>
  (rc 7 0 m7).bind (fun r8 =>
  (if r8.1 = 0 then
  some (0, r8.2)
  else mro kdC 1 (r8.2 1 4) (fun zz12 =>
  (Fo_add zz12 7 0 r8.2).bind (fun r13 =>
  rec (wI (x1 + 1)) r13)))))
  else some (1, m)))
  else some (1, m))
def Pa_both_L11 (rc : Nat → Int → zM → Option (Int × zM)) : Nat → Int → zM → Option (Int × zM)
  | 0, _, _ => none
  | n + 1, x1, m => Pa_both_B11 rc (Pa_both_L11 rc n) x1 m
def Pa_both (rc : Nat → Int → zM → Option (Int × zM)) (m : zM) : Option (Int × zM) :=
  (rc 7 0 m).bind (fun r1 =>
  (if r1.1 = 0 then
  some (0, r1.2)
  else Pa_both_L11 rc 1000000 0 r1.2))
def Pa_fact (rc : Nat → Int → zM → Option (Int × zM)) (m : zM) : Option (Int × zM) :=
  (Pa_kind m).bind (fun r1 =>
  (if r1 = 91 then (Pa_opening 91 m).bind (fun r7 =>
  (if r7.1 = 0 then
  some (0, r7.2)
  else (rc 5 0 r7.2).bind (fun r11 =>
  (if r11.1 = 0 then
  some (0, r11.2)
  else (Pa_closing 93 r11.2).bind (fun r15 =>
  (if r15.1 = 0 then
  some (0, r15.2)
  else some (1, r15.2)))))))
  else if r1 = 326 then (Pa_opening 326 m).bind (fun r19 =>
  (if r19.1 = 0 then
  some (0, r19.2)
  else (rc 7 0 r19.2).bind (fun r23 =>
  (if r23.1 = 0 then
  some (0, r23.2)
  else pf 1 6 (wI ((r23.2 1 6) - 1)) r23.2 (fun m28 =>
  mro kdC 1 (m28 1 4) (fun zz29 =>
  (Fo_add zz29 6 0 m28).bind (fun r30 =>
  some (1, r30))))))))
  else if r1 = 327 then mro kdC 1 (m 1 4) (fun zz33 =>
  (Fo_add zz33 1 1 m).bind (fun r34 =>
  pf 1 7 (wI ((r34 1 7) + 1)) r34 (fun m38 =>
  some (1, m38))))
  else (rc 8 0 m).bind (fun r39 =>
  some (r39.1, r39.2))))
def Pa_comparison_b38 (rc : Nat → Int → zM → Option (Int × zM)) (x1 : Int) (m : zM) : Option (Int × zM) :=
  pf 1 7 (wI ((m 1 7) + 1)) m (fun m2 =>
  (rc 0 0 m2).bind (fun r3 =>
  (if r3.1 = 0 then
  some (0, r3.2)
  else mro kdC 1 (r3.2 1 4) (fun zz7 =>
  (Fo_add zz7 x1 0 r3.2).bind (fun r8 =>
  some (1, r8))))))
def Pa_comparison (rc : Nat → Int → zM → Option (Int × zM)) (m : zM) : Option (Int × zM) :=
  (rc 0 0 m).bind (fun r1 =>
  (if r1.1 = 0 then
  some (0, r1.2)
  else (Pa_kind r1.2).bind (fun r5 =>
  (if r5 = 60 then
  Pa_comparison_b38 rc r5 r1.2
  else (if r5 = 62 then
  Pa_comparison_b38 rc r5 r1.2
  else (if r5 = 61 then
  Pa_comparison_b38 rc r5 r1.2
  else (Pa_fail 1 r1.2).bind (fun r11 =>
  some (r11.1, r11.2))))))))
def Pa_rec : Nat → Nat → Int → zM → Option (Int × zM)
  | 0, _, _, _ => none
  | d + 1, s, a, m => if s = 0 then Pa_sum (Pa_rec d) m else if s = 1 then Pa_product (Pa_rec d) m else if s = 2 then Pa_part (Pa_rec d) m else if s = 3 then Pa_pairOfSums (Pa_rec d) a m else if s = 4 then Pa_choice (Pa_rec d) m else if s = 5 then Pa_test (Pa_rec d) m else if s = 6 then Pa_both (Pa_rec d) m else if s = 7 then Pa_fact (Pa_rec d) m else if s = 8 then Pa_comparison (Pa_rec d) m else none
def Pa_likesStatement (m : zM) : Option (Int × zM) :=
  mro kdC 10 (m 1 3) (fun zz1 =>
  (if 0 < m (zz1 + 11) 1 then
  (Pa_fail 6 m).bind (fun r4 =>
  some (r4.1, r4.2))
  else pf 1 7 (wI ((m 1 7) + 1)) m (fun m8 =>
  mro kdC 10 (m8 1 3) (fun zz9 =>
  pf 1 4 ((zz9 + 11 : Int) + 1) m8 (fun m10 =>
  pf 1 5 0 m10 (fun m11 =>
  pf 1 6 0 m11 (fun m12 =>
  (Pa_rec 100 0 0 m12).bind (fun r13 =>
  some (r13.1, r13.2)))))))))
def Pa_mayStatement (m : zM) : Option (Int × zM) :=
  mro kdC 10 (m 1 3) (fun zz1 =>
  (if 0 < m (zz1 + 14) 1 then
  (Pa_fail 6 m).bind (fun r4 =>
  some (r4.1, r4.2))
  else pf 1 7 (wI ((m 1 7) + 1)) m (fun m8 =>
  mro kdC 10 (m8 1 3) (fun zz9 =>
  pf 1 4 ((zz9 + 14 : Int) + 1) m8 (fun m10 =>
  pf 1 5 1 m10 (fun m11 =>
  pf 1 6 0 m11 (fun m12 =>
  (Pa_rec 100 5 0 m12).bind (fun r13 =>
  some (r13.1, r13.2)))))))))
def Pa_setting (x1 : Int) (m : zM) : Option (Int × zM) :=
  pf 1 7 (wI ((m 1 7) + 1)) m (fun m2 =>
  (if x1 = 310 then (Pa_number 0 6 m2).bind (fun r7 =>
  (if r7.1 = 0 then
  some (0, r7.2)
  else mro kdC 10 (r7.2 1 3) (fun zz11 =>
  pf zz11 14 (r7.2 1 8) r7.2 (fun m13 =>
  some (1, m13)))))
  else if x1 = 311 then (Pa_number 0 99 m2).bind (fun r14 =>
  (if r14.1 = 0 then
  some (0, r14.2)
  else mro kdC 10 (r14.2 1 3) (fun zz18 =>
  pf zz18 15 (r14.2 1 8) r14.2 (fun m20 =>
  some (1, m20)))))
  else if x1 = 312 then (Pa_number 2 9 m2).bind (fun r21 =>
  (if r21.1 = 0 then
  some (0, r21.2)
  else mro kdC 10 (r21.2 1 3) (fun zz25 =>
  pf zz25 16 (r21.2 1 8) r21.2 (fun m27 =>
  some (1, m27)))))
  else if x1 = 313 then (Pa_number 0 99 m2).bind (fun r28 =>
  (if r28.1 = 0 then
  some (0, r28.2)
  else mro kdC 10 (r28.2 1 3) (fun zz32 =>
  pf zz32 17 (r28.2 1 8) r28.2 (fun m34 =>
  some (1, m34)))))
  else (Pa_number 0 100 m2).bind (fun r35 =>
  (if r35.1 = 0 then
  some (0, r35.2)
  else mro kdC 10 (r35.2 1 3) (fun zz39 =>
  pf zz39 18 (r35.2 1 8) r35.2 (fun m41 =>
  some (1, m41)))))))
def Pa_statement (m : zM) : Option (Int × zM) :=
  (Pa_kind m).bind (fun r1 =>
  (if r1 = 300 then (Pa_beastStatement m).bind (fun r19 =>
  some (r19.1, r19.2))
  else if r1 = 301 then (Pa_fail 1 m).bind (fun r22 =>
  some (r22.1, r22.2))
  else if r1 = 302 then (Pa_fail 1 m).bind (fun r25 =>
  some (r25.1, r25.2))
  else if r1 = 303 then (Pa_fail 1 m).bind (fun r28 =>
  some (r28.1, r28.2))
  else if r1 = 304 then (Pa_tasteStatement m).bind (fun r31 =>
  some (r31.1, r31.2))
  else if r1 = 305 then (Pa_guestStatement m).bind (fun r34 =>
  some (r34.1, r34.2))
  else if r1 = 306 then (Pa_fail 1 m).bind (fun r37 =>
  some (r37.1, r37.2))
  else if r1 = 307 then (Pa_fearStatement m).bind (fun r40 =>
  some (r40.1, r40.2))
  else if r1 = 308 then (Pa_likesStatement m).bind (fun r43 =>
  some (r43.1, r43.2))
  else if r1 = 309 then (Pa_mayStatement m).bind (fun r46 =>
  some (r46.1, r46.2))
  else if r1 = 310 then (Pa_kind m).bind (fun r49 =>
  (Pa_setting r49 m).bind (fun r52 =>
  some (r52.1, r52.2)))
  else if r1 = 311 then (Pa_kind m).bind (fun r55 =>
  (Pa_setting r55 m).bind (fun r58 =>
  some (r58.1, r58.2)))
  else if r1 = 312 then (Pa_kind m).bind (fun r61 =>
  (Pa_setting r61 m).bind (fun r64 =>
  some (r64.1, r64.2)))
  else if r1 = 313 then (Pa_kind m).bind (fun r67 =>
  (Pa_setting r67 m).bind (fun r70 =>
  some (r70.1, r70.2)))
  else if r1 = 314 then (Pa_kind m).bind (fun r73 =>
  (Pa_setting r73 m).bind (fun r76 =>
  some (r76.1, r76.2)))
  else (Pa_fail 1 m).bind (fun r79 =>
  some (r79.1, r79.2))))
def Pa_parse_B36 (rec : Int → zM → Option (Int × zM)) (x2 : Int) (m : zM) : Option (Int × zM) :=
  (if 80 < x2 then
  some ((-1), m)
  else (Pa_kind m).bind (fun r2 =>
  (if r2 = 256 then
  some (x2, m)
  else (if x2 = 80 then
  (Pa_fail 6 m).bind (fun r7 =>
  some ((-1), r7.2))
  else (Pa_statement m).bind (fun r10 =>
  (if r10.1 = 0 then
  some ((-1), r10.2)
  else (Pa_token 59 r10.2).bind (fun r14 =>
  (if r14.1 = 0 then
  some ((-1), r14.2)
  else rec (wI (x2 + 1)) r14.2))))))))
def Pa_parse_L36  : Nat → Int → zM → Option (Int × zM)
  | 0, _, _ => none
  | n + 1, x2, m => Pa_parse_B36 (Pa_parse_L36 n) x2 m
def Pa_parse (o1 : Nat) (m : zM) : Option (Int × zM) :=
  pf 1 3 ((o1 : Int) + 1) m (fun m1 =>
  mro kdC 10 (m1 1 3) (fun zz2 =>
  (Zo_clear zz2 m1).bind (fun r3 =>
  pf 1 1 0 r3 (fun m6 =>
  pf 1 2 ((-1)) m6 (fun m7 =>
  pf 1 7 0 m7 (fun m8 =>
  (Ta_split m8).bind (fun r9 =>
  Pa_parse_L36 1000000 0 r9)))))))
def St_forgetDay_B2 (k28 : Nat → zM → Option (zM)) (rec : Nat → Int → zM → Option (zM)) (o0 : Nat) (x1 : Int) (m : zM) : Option (zM) :=
  (if x1 < 8 then
  wr (o0 + 2) 8 x1 ((-1)) m (fun m2 =>
  wr (o0 + 3) 8 x1 0 m2 (fun m3 =>
  rec o0 (wI (x1 + 1)) m3))
  else k28 o0 m)
def St_forgetDay_L2 (k28 : Nat → zM → Option (zM)) : Nat → Nat → Int → zM → Option (zM)
  | 0, _, _, _ => none
  | n + 1, o0, x1, m => St_forgetDay_B2 k28 (St_forgetDay_L2 k28 n) o0 x1 m
def St_forgetDay_B30 (rec : Nat → Int → zM → Option (zM)) (o0 : Nat) (x1 : Int) (m : zM) : Option (zM) :=
  (if x1 < 48 then
  wr (o0 + 6) 48 x1 0 m (fun m2 =>
  rec o0 (wI (x1 + 1)) m2)
  else some m)
def St_forgetDay_L30  : Nat → Nat → Int → zM → Option (zM)
  | 0, _, _, _ => none
  | n + 1, o0, x1, m => St_forgetDay_B30 (St_forgetDay_L30 n) o0 x1 m
def St_forgetDay (o0 : Nat) (m : zM) : Option (zM) :=
  St_forgetDay_L2 (fun o0_1 m2 => St_forgetDay_L30 1000000 o0_1 0 m2) 1000000 o0 0 m
def St_forgetRows (o0 : Nat) (m : zM) : Option (zM) :=
  pf o0 10 0 m (fun m1 =>
  pf o0 11 0 m1 (fun m2 =>
  some m2))
def St_begin_B53 (rec : Nat → Int → zM → Option (zM)) (o0 : Nat) (x2 : Int) (m : zM) : Option (zM) :=
  (if x2 < 48 then
  wr (o0 + 5) 48 x2 0 m (fun m2 =>
  rec o0 (wI (x2 + 1)) m2)
  else (St_forgetDay o0 m).bind (fun r3 =>
  (St_forgetRows o0 r3).bind (fun r6 =>
  some r6)))
def St_begin_L53  : Nat → Nat → Int → zM → Option (zM)
  | 0, _, _, _ => none
  | n + 1, o0, x2, m => St_begin_B53 (St_begin_L53 n) o0 x2 m
def St_begin (o0 : Nat) (o1 : Nat) (m : zM) : Option (zM) :=
  pf o0 0 0 m (fun m1 =>
  pf o0 1 0 m1 (fun m2 =>
  pf o0 2 0 m2 (fun m3 =>
  ac (o1 + 10) 24 0 (o0 + 1) 24 0 24 m3 (fun m4 =>
  ac (o1 + 5) 18 0 (o0 + 4) 18 0 18 m4 (fun m5 =>
  St_begin_L53 1000000 o0 0 m5)))))
def C_zoo (m : zM) : Option (Int × zM) :=
  mro kdC 10 (m 0 13) (fun zz1 =>
  (Pa_parse zz1 m).bind (fun r2 =>
  pf 2 1 0 r2.2 (fun m5 =>
  (if r2.1 = (-1) then
  (C_refuse 1 m5).bind (fun r7 =>
  some (r7.1, r7.2))
  else mro kdC 10 (m5 0 12) (fun zz10 =>
  mro kdC 10 (m5 0 13) (fun zz11 =>
  pf 0 12 ((zz11 : Int) + 1) m5 (fun m12 =>
  pf 0 13 ((zz10 : Int) + 1) m12 (fun m13 =>
  mro kdC 10 (m13 0 12) (fun zz14 =>
  (St_begin 8 zz14 m13).bind (fun r15 =>
  pf 40 0 0 r15 (fun m18 =>
  pf 0 15 0 m18 (fun m19 =>
  some (r2.1, m19)))))))))))))
def C_fault (x1 : Int) (m : zM) : Option (Int) :=
  (if x1 = 0 then some (m 1 1)
  else if x1 = 1 then some (m 1 2)
  else some ((-1)))
def Zo_isThere (o0 : Nat) (x1 : Int) (x2 : Int) (m : zM) : Option (Int) :=
  rd (o0 + 7) 8 x1 m (fun y1 =>
  (if x2 < y1 then
  some 0
  else rd (o0 + 8) 8 x1 m (fun y3 =>
  (if y3 < x2 then
  some 0
  else some 1))))
def C_guestsThere_B4 (rec : Int → Int → Option (Int)) (x1 : Int) (x2 : Int) (m : zM) : Option (Int) :=
  mro kdC 10 (m 0 12) (fun zz1 =>
  (if x2 < m zz1 1 then
  mro kdC 10 (m 0 12) (fun zz4 =>
  (Zo_isThere zz4 x2 (m 8 1) m).bind (fun r6 =>
  (if r6 = 0 then
  rec x1 (wI (x2 + 1))
  else rec (wI (x1 + 1)) (wI (x2 + 1)))))
  else some x1))
def C_guestsThere_L4 (m : zM) : Nat → Int → Int → Option (Int)
  | 0, _, _ => none
  | n + 1, x1, x2 => C_guestsThere_B4 (C_guestsThere_L4 m n) x1 x2 m
def C_guestsThere (m : zM) : Option (Int) :=
  C_guestsThere_L4 m 1000000 0 0
def C_guestsKept_B4 (rec : Int → Int → Option (Int)) (x1 : Int) (x2 : Int) (m : zM) : Option (Int) :=
  mro kdC 10 (m 0 12) (fun zz1 =>
  (if x2 < m zz1 1 then
  rd 10 8 x2 m (fun y4 =>
  (if y4 = (-1) then
  rec x1 (wI (x2 + 1))
  else rec (wI (x1 + 1)) (wI (x2 + 1))))
  else some x1))
def C_guestsKept_L4 (m : zM) : Nat → Int → Int → Option (Int)
  | 0, _, _ => none
  | n + 1, x1, x2 => C_guestsKept_B4 (C_guestsKept_L4 m n) x1 x2 m
def C_guestsKept (m : zM) : Option (Int) :=
  C_guestsKept_L4 m 1000000 0 0
def C_has (x1 : Int) (m : zM) : Option (Int) :=
  (if x1 = 0 then mro kdC 10 (m 0 12) (fun zz13 =>
  some (m zz13 0))
  else if x1 = 1 then mro kdC 10 (m 0 12) (fun zz15 =>
  some (m zz15 1))
  else if x1 = 2 then some (m 8 0)
  else if x1 = 3 then some (m 8 1)
  else if x1 = 4 then mro kdC 10 (m 0 12) (fun zz19 =>
  some (m zz19 14))
  else if x1 = 5 then some (m 8 2)
  else if x1 = 6 then (C_guestsThere m).bind (fun r22 =>
  some r22)
  else if x1 = 7 then (C_guestsKept m).bind (fun r25 =>
  some r25)
  else if x1 = 8 then some (m 8 11)
  else if x1 = 9 then some (m 0 15)
  else if x1 = 10 then some (m 0 16)
  else if x1 = 11 then some (m 40 0)
  else some ((-1)))
def Zo_isBeast (o0 : Nat) (x1 : Int) (m : zM) : Option (Int) :=
  (if x1 < 0 then
  some 0
  else (if x1 < m o0 0 then
  some 1
  else some 0))
def Ta_letterOf_B6 (rec : Int → Int → Option (Int)) (x2 : Int) (x3 : Int) : Option (Int) :=
  (if x3 < 6 then
  rec (dvI x2 27) (wI (x3 + 1))
  else some (rmI x2 27))
def Ta_letterOf_L6  : Nat → Int → Int → Option (Int)
  | 0, _, _ => none
  | n + 1, x2, x3 => Ta_letterOf_B6 (Ta_letterOf_L6 n) x2 x3
def Ta_letterOf (x0 : Int) (x1 : Int) : Option (Int) :=
  lt (wI (x1 + 1)) (fun v1 =>
  Ta_letterOf_L6 1000000 x0 v1)
def Zo_isGuest (o0 : Nat) (x1 : Int) (m : zM) : Option (Int) :=
  (if x1 < 0 then
  some 0
  else (if x1 < m o0 1 then
  some 1
  else some 0))
def C_letter_b41 (x1 : Int) (x2 : Int) (x3 : Int) (m : zM) : Option (Int) :=
  (if x1 = 1 then
  mro kdC 10 (m 0 12) (fun zz2 =>
  (Zo_isGuest zz2 x2 m).bind (fun r3 =>
  (if r3 = 0 then
  some ((-1))
  else mro kdC 10 (m 0 12) (fun zz7 =>
  rd (zz7 + 6) 8 x2 m (fun y8 =>
  (Ta_letterOf y8 x3).bind (fun r9 =>
  some r9))))))
  else some ((-1)))
def C_letter (x1 : Int) (x2 : Int) (x3 : Int) (m : zM) : Option (Int) :=
  (if x3 < 0 then
  some ((-1))
  else (if x3 < 6 then
  (if x1 = 0 then
  mro kdC 10 (m 0 12) (fun zz4 =>
  (Zo_isBeast zz4 x2 m).bind (fun r5 =>
  (if r5 = 0 then
  C_letter_b41 x1 x2 x3 m
  else mro kdC 10 (m 0 12) (fun zz9 =>
  rd (zz9 + 1) 6 x2 m (fun y10 =>
  (Ta_letterOf y10 x3).bind (fun r11 =>
  some r11))))))
  else C_letter_b41 x1 x2 x3 m)
  else some ((-1))))
def Zo_isAwake (o0 : Nat) (x1 : Int) (x2 : Int) (m : zM) : Option (Int) :=
  rd (o0 + 2) 6 x1 m (fun y1 =>
  (if x2 < y1 then
  some 0
  else rd (o0 + 3) 6 x1 m (fun y3 =>
  (if y3 < x2 then
  some 0
  else some 1))))
def C_firstKeptBy_B2 (rec : Int → Int → Option (Int)) (x1 : Int) (x2 : Int) (m : zM) : Option (Int) :=
  mro kdC 10 (m 0 12) (fun zz1 =>
  (if x2 < m zz1 1 then
  rd 10 8 x2 m (fun y4 =>
  (if y4 = x1 then
  some x2
  else rec x1 (wI (x2 + 1))))
  else some ((-1))))
def C_firstKeptBy_L2 (m : zM) : Nat → Int → Int → Option (Int)
  | 0, _, _ => none
  | n + 1, x1, x2 => C_firstKeptBy_B2 (C_firstKeptBy_L2 m n) x1 x2 m
def C_firstKeptBy (x1 : Int) (m : zM) : Option (Int) :=
  C_firstKeptBy_L2 m 1000000 x1 0
def C_beast_b90 (x1 : Int) (x2 : Int) (m : zM) : Option (Int) :=
  rd 12 18 (wI ((wI ((wI (x1 * 3)) + x2)) - 3)) m (fun y1 =>
  some y1)
def C_beast (x1 : Int) (x2 : Int) (m : zM) : Option (Int) :=
  mro kdC 10 (m 0 12) (fun zz1 =>
  (Zo_isBeast zz1 x1 m).bind (fun r2 =>
  (if r2 = 0 then
  some ((-1))
  else (if x2 = 0 then mro kdC 10 (m 0 12) (fun zz14 =>
  rd (zz14 + 2) 6 x1 m (fun y15 =>
  some y15))
  else if x2 = 1 then mro kdC 10 (m 0 12) (fun zz16 =>
  rd (zz16 + 3) 6 x1 m (fun y17 =>
  some y17))
  else if x2 = 2 then mro kdC 10 (m 0 12) (fun zz18 =>
  rd (zz18 + 4) 6 x1 m (fun y19 =>
  some y19))
  else if x2 = 3 then C_beast_b90 x1 x2 m
  else if x2 = 4 then C_beast_b90 x1 x2 m
  else if x2 = 5 then C_beast_b90 x1 x2 m
  else if x2 = 6 then mro kdC 10 (m 0 12) (fun zz20 =>
  (Zo_isAwake zz20 x1 (m 8 1) m).bind (fun r22 =>
  (if r22 = 0 then
  some 0
  else some 1)))
  else if x2 = 7 then (C_firstKeptBy x1 m).bind (fun r26 =>
  some r26)
  else some ((-1))))))
def C_guest_b60 (x1 : Int) (x2 : Int) (m : zM) : Option (Int) :=
  rd 9 24 (wI ((wI (x1 * 3)) + x2)) m (fun y1 =>
  some y1)
def C_guest (x1 : Int) (x2 : Int) (m : zM) : Option (Int) :=
  mro kdC 10 (m 0 12) (fun zz1 =>
  (Zo_isGuest zz1 x1 m).bind (fun r2 =>
  (if r2 = 0 then
  some ((-1))
  else (if x2 = 0 then C_guest_b60 x1 x2 m
  else if x2 = 1 then C_guest_b60 x1 x2 m
  else if x2 = 2 then C_guest_b60 x1 x2 m
  else if x2 = 3 then mro kdC 10 (m 0 12) (fun zz14 =>
  rd (zz14 + 7) 8 x1 m (fun y15 =>
  some y15))
  else if x2 = 4 then mro kdC 10 (m 0 12) (fun zz16 =>
  rd (zz16 + 8) 8 x1 m (fun y17 =>
  some y17))
  else if x2 = 5 then mro kdC 10 (m 0 12) (fun zz18 =>
  rd (zz18 + 9) 8 x1 m (fun y19 =>
  some y19))
  else if x2 = 6 then rd 11 8 x1 m (fun y20 =>
  some y20)
  else if x2 = 7 then rd 10 8 x1 m (fun y21 =>
  some y21)
  else some ((-1))))))
def St_suits_B5 (rec : Nat → Int → Int → Int → Int → Option (Int)) (o0 : Nat) (x1 : Int) (x2 : Int) (x3 : Int) (x4 : Int) (m : zM) : Option (Int) :=
  (if x4 < 3 then
  rd (o0 + 1) 24 (wI ((wI (x2 * 3)) + x4)) m (fun y2 =>
  rd (o0 + 4) 18 (wI ((wI (x1 * 3)) + x4)) m (fun y3 =>
  lt (wI (x3 + (wI (y2 * y3)))) (fun v4 =>
  rec o0 x1 x2 v4 (wI (x4 + 1)))))
  else some x3)
def St_suits_L5 (m : zM) : Nat → Nat → Int → Int → Int → Int → Option (Int)
  | 0, _, _, _, _, _ => none
  | n + 1, o0, x1, x2, x3, x4 => St_suits_B5 (St_suits_L5 m n) o0 x1 x2 x3 x4 m
def St_suits (o0 : Nat) (x1 : Int) (x2 : Int) (m : zM) : Option (Int) :=
  St_suits_L5 m 1000000 o0 x1 x2 0 0
def Ke_look_B42 (rec : Nat → Int → Int → zM → Option (zM)) (o1 : Nat) (x3 : Int) (x4 : Int) (m : zM) : Option (zM) :=
  (if x4 < 3 then
  rd (o1 + 1) 24 (wI ((wI (x3 * 3)) + x4)) m (fun y2 =>
  wr 29 9 (wI (3 + x4)) y2 m (fun m3 =>
  rec o1 x3 (wI (x4 + 1)) m3))
  else some m)
def Ke_look_L42  : Nat → Nat → Int → Int → zM → Option (zM)
  | 0, _, _, _, _ => none
  | n + 1, o1, x3, x4, m => Ke_look_B42 (Ke_look_L42 n) o1 x3 x4 m
def Ke_look (o1 : Nat) (x2 : Int) (x3 : Int) (m : zM) : Option (zM) :=
  (St_suits o1 x2 x3 m).bind (fun r1 =>
  wr 29 9 0 r1 m (fun m4 =>
  rd (o1 + 5) 48 (wI ((wI (x2 * 8)) + x3)) m4 (fun y5 =>
  wr 29 9 1 y5 m4 (fun m6 =>
  wr 29 9 2 (m6 o1 1) m6 (fun m8 =>
  Ke_look_L42 1000000 o1 x3 0 m8)))))
def Fo_operandsOf (x0 : Int) : Option (Int) :=
  (if x0 = 1 then some 0
  else if x0 = 2 then some 0
  else if x0 = 3 then some 2
  else if x0 = 4 then some 2
  else if x0 = 5 then some 3
  else if x0 = 6 then some 1
  else some 2)
def Fo_pushed (x0 : Int) (x1 : Int) (a2 : Nat) (n2 : Nat) (m : zM) : Option (Int) :=
  (if x0 = 1 then
  some x1
  else (if x1 < 0 then
  some 0
  else (if x1 < ((n2 : Nat) : Int) then
  rd a2 n2 x1 m (fun y4 =>
  some y4)
  else some 0)))
def J_floorDiv_7cf53 (x0 : Int) (x1 : Int) : Option (Int) :=
  nz x1 ((if xoI x0 x1 < 0 then
  (if wI ((dvI x0 x1) * x1) = x0 then
  some (dvI x0 x1)
  else some (wI ((dvI x0 x1) - 1)))
  else some (dvI x0 x1)))
def J_floorMod_7cf53 (x0 : Int) (x1 : Int) : Option (Int) :=
  nz x1 ((if xoI x0 x1 < 0 then
  (if rmI x0 x1 = 0 then
  some (rmI x0 x1)
  else some (wI ((rmI x0 x1) + x1)))
  else some (rmI x0 x1)))
def Fo_joined (x0 : Int) (x1 : Int) (x2 : Int) : Option (Int) :=
  (if x0 = 3 then some (wI (max ((-1000000)) (min 1000000 (min x1 x2))))
  else if x0 = 4 then some (wI (max ((-1000000)) (min 1000000 (max x1 x2))))
  else if x0 = 7 then some (wI (max ((-1000000)) (min 1000000 (anI x1 x2))))
  else if x0 = 8 then some (wI (max ((-1000000)) (min 1000000 (orI x1 x2))))
  else if x0 = 37 then (if x2 = 0 then
  some (wI (max ((-1000000)) (min 1000000 0)))
  else (J_floorMod_7cf53 x1 x2).bind (fun r14 =>
  some (wI (max ((-1000000)) (min 1000000 r14)))))
  else if x0 = 42 then lt (wL (x1 * x2)) (fun v17 =>
  some (wI (max ((-1000000)) (min 1000000 v17))))
  else if x0 = 43 then lt (wL (x1 + x2)) (fun v18 =>
  some (wI (max ((-1000000)) (min 1000000 v18))))
  else if x0 = 45 then lt (wL (x1 - x2)) (fun v19 =>
  some (wI (max ((-1000000)) (min 1000000 v19))))
  else if x0 = 47 then (if x2 = 0 then
  some (wI (max ((-1000000)) (min 1000000 0)))
  else (J_floorDiv_7cf53 x1 x2).bind (fun r21 =>
  some (wI (max ((-1000000)) (min 1000000 r21)))))
  else if x0 = 60 then (if x1 < x2 then
  some (wI (max ((-1000000)) (min 1000000 1)))
  else some (wI (max ((-1000000)) (min 1000000 0))))
  else if x0 = 61 then (if x1 = x2 then
  some (wI (max ((-1000000)) (min 1000000 1)))
  else some (wI (max ((-1000000)) (min 1000000 0))))
  else if x0 = 62 then (if x2 < x1 then
  some (wI (max ((-1000000)) (min 1000000 1)))
  else some (wI (max ((-1000000)) (min 1000000 0))))
  else some (wI (max ((-1000000)) (min 1000000 0))))
def Fo_valueOf_B4 (k204 : Nat → Int → zM → Option (Int × zM)) (rec : Nat → Nat → Nat → Int → Int → zM → Option (Int × zM)) (o0 : Nat) (a1 : Nat) (n1 : Nat) (x2 : Int) (x3 : Int) (m : zM) : Option (Int × zM) :=
  (if x3 < m o0 1 then
  rd (o0 + 1) 1600 x3 m (fun y3 =>
  (Fo_operandsOf (anI y3 255)).bind (fun r4 =>
  lt (wI (x2 - r4)) (fun v7 =>
  (if v7 < 0 then
  some (0, m)
  else (if v7 < 64 then
  (if r4 = 0 then rd (o0 + 1) 1600 x3 m (fun y13 =>
  (Fo_pushed (anI y3 255) (srI y13 8) a1 n1 m).bind (fun r14 =>
  wr (o0 + 2) 64 v7 r14 m (fun m17 =>
  lt (wI (v7 + 1)) (fun v18 =>
  rec o0 a1 n1 v18 (wI (x3 + 1)) m17))))
  else if r4 = 1 then rd (o0 + 2) 64 v7 m (fun y19 =>
  wr (o0 + 2) 64 v7 (wI (1 - y19)) m (fun m20 =>
  lt (wI (v7 + 1)) (fun v21 =>
  rec o0 a1 n1 v21 (wI (x3 + 1)) m20)))
  else if r4 = 2 then rd (o0 + 2) 64 v7 m (fun y22 =>
  rd (o0 + 2) 64 (wI (v7 + 1)) m (fun y23 =>
  (Fo_joined (anI y3 255) y22 y23).bind (fun r24 =>
  wr (o0 + 2) 64 v7 r24 m (fun m27 =>
  lt (wI (v7 + 1)) (fun v28 =>
  rec o0 a1 n1 v28 (wI (x3 + 1)) m27)))))
  else rd (o0 + 2) 64 v7 m (fun y29 =>
  (if y29 = 0 then
  rd (o0 + 2) 64 (wI (v7 + 2)) m (fun y31 =>
  wr (o0 + 2) 64 v7 y31 m (fun m32 =>
  lt (wI (v7 + 1)) (fun v33 =>
  rec o0 a1 n1 v33 (wI (x3 + 1)) m32)))
  else rd (o0 + 2) 64 (wI (v7 + 1)) m (fun y34 =>
  wr (o0 + 2) 64 v7 y34 m (fun m35 =>
  lt (wI (v7 + 1)) (fun v36 =>
  rec o0 a1 n1 v36 (wI (x3 + 1)) m35))))))
  else some (0, m))))))
  else k204 o0 x2 m)
def Fo_valueOf_L4 (k204 : Nat → Int → zM → Option (Int × zM)) : Nat → Nat → Nat → Nat → Int → Int → zM → Option (Int × zM)
  | 0, _, _, _, _, _, _ => none
  | n + 1, o0, a1, n1, x2, x3, m => Fo_valueOf_B4 k204 (Fo_valueOf_L4 k204 n) o0 a1 n1 x2 x3 m
def Fo_valueOf (o0 : Nat) (a1 : Nat) (n1 : Nat) (m : zM) : Option (Int × zM) :=
  Fo_valueOf_L4 (fun o0_1 x2_1 m2 => (if 0 < x2_1 then
  rd (o0_1 + 2) 64 (wI (x2_1 - 1)) m2 (fun y4 =>
  some (y4, m2))
  else some (0, m2))) 1000000 o0 a1 n1 0 0 m
def Ke_liking (o1 : Nat) (o2 : Nat) (x3 : Int) (x4 : Int) (m : zM) : Option (Int × zM) :=
  (Ke_look o2 x3 x4 m).bind (fun r1 =>
  (if 0 < r1 (o1 + 11) 1 then
  (Fo_valueOf (o1 + 11) 29 9 r1).bind (fun r6 =>
  some (max 0 (min 999 r6.1), r6.2))
  else rd 29 9 0 r1 (fun y9 =>
  rd 29 9 1 r1 (fun y10 =>
  (Fo_joined 47 y9 (wI (1 + y10))).bind (fun r11 =>
  some (max 0 (min 999 r11), r1))))))
def C_between (x1 : Int) (x2 : Int) (x3 : Int) (m : zM) : Option (Int × zM) :=
  mro kdC 10 (m 0 12) (fun zz1 =>
  (Zo_isBeast zz1 x1 m).bind (fun r2 =>
  (if r2 = 0 then
  some ((-1), m)
  else mro kdC 10 (m 0 12) (fun zz6 =>
  (Zo_isGuest zz6 x2 m).bind (fun r7 =>
  (if r7 = 0 then
  some ((-1), m)
  else lt (wI ((wI (x1 * 8)) + x2)) (fun v11 =>
  (if x3 = 0 then (St_suits 8 x1 x2 m).bind (fun r16 =>
  some (r16, m))
  else if x3 = 1 then mro kdC 10 (m 0 12) (fun zz19 =>
  (Ke_liking zz19 8 x1 x2 m).bind (fun r20 =>
  some (r20.1, r20.2)))
  else if x3 = 2 then rd 13 48 v11 m (fun y23 =>
  some (y23, m))
  else if x3 = 3 then rd 14 48 v11 m (fun y24 =>
  some (y24, m))
  else some ((-1), m)))))))))
def St_moment (o0 : Nat) (m : zM) : Option (Int) :=
  some (wI ((wI ((m o0 0) * 24)) + (m o0 1)))
def C_hoursToSee (m : zM) : Option (Int) :=
  (St_moment 8 m).bind (fun r1 =>
  some (min 100 (wI ((wI (23999 - r1)) + 1))))
def St_copyFrom (o0 : Nat) (o1 : Nat) (m : zM) : Option (zM) :=
  pf o0 0 (m o1 0) m (fun m2 =>
  pf o0 1 (m2 o1 1) m2 (fun m4 =>
  pf o0 2 (m4 o1 2) m4 (fun m6 =>
  ac (o1 + 1) 24 0 (o0 + 1) 24 0 24 m6 (fun m7 =>
  ac (o1 + 2) 8 0 (o0 + 2) 8 0 8 m7 (fun m8 =>
  ac (o1 + 3) 8 0 (o0 + 3) 8 0 8 m8 (fun m9 =>
  ac (o1 + 4) 18 0 (o0 + 4) 18 0 18 m9 (fun m10 =>
  ac (o1 + 5) 48 0 (o0 + 5) 48 0 48 m10 (fun m11 =>
  ac (o1 + 6) 48 0 (o0 + 6) 48 0 48 m11 (fun m12 =>
  ac (o1 + 7) 60 0 (o0 + 7) 60 0 60 m12 (fun m13 =>
  pf o0 10 (m13 o1 10) m13 (fun m15 =>
  pf o0 11 (m15 o1 11) m15 (fun m17 =>
  some m17))))))))))))
def Ke_canMeet (o0 : Nat) (o1 : Nat) (x2 : Int) (x3 : Int) (m : zM) : Option (Int) :=
  (Zo_isAwake o0 x2 (m o1 1) m).bind (fun r2 =>
  (if r2 = 0 then
  some 0
  else (Zo_isThere o0 x3 (m o1 1) m).bind (fun r7 =>
  (if r7 = 0 then
  some 0
  else rd (o1 + 2) 8 x3 m (fun y11 =>
  (if y11 = (-1) then
  rd (o1 + 3) 8 x3 m (fun y13 =>
  (if anI (srI y13 x2) 1 = 0 then
  some 1
  else some 0))
  else some 0))))))
def Ke_weighGuest_B3 (rec : Nat → Nat → Int → Int → zM → Option (zM)) (o1 : Nat) (o2 : Nat) (x3 : Int) (x4 : Int) (m : zM) : Option (zM) :=
  (if x4 < m o1 0 then
  (Ke_canMeet o1 o2 x4 x3 m).bind (fun r3 =>
  (if r3 = 0 then
  wr 26 48 (wI ((wI (x4 * 8)) + x3)) 0 m (fun m7 =>
  rec o1 o2 x3 (wI (x4 + 1)) m7)
  else (Ke_liking o1 o2 x4 x3 m).bind (fun r8 =>
  wr 26 48 (wI ((wI (x4 * 8)) + x3)) r8.1 r8.2 (fun m11 =>
  rec o1 o2 x3 (wI (x4 + 1)) m11))))
  else some m)
def Ke_weighGuest_L3  : Nat → Nat → Nat → Int → Int → zM → Option (zM)
  | 0, _, _, _, _, _ => none
  | n + 1, o1, o2, x3, x4, m => Ke_weighGuest_B3 (Ke_weighGuest_L3 n) o1 o2 x3 x4 m
def Ke_weighGuest (o1 : Nat) (o2 : Nat) (x3 : Int) (m : zM) : Option (zM) :=
  Ke_weighGuest_L3 1000000 o1 o2 x3 0 m
def Ke_weigh_B2 (rec : Nat → Nat → Int → zM → Option (zM)) (o1 : Nat) (o2 : Nat) (x3 : Int) (m : zM) : Option (zM) :=
  (if x3 < m o1 1 then
  (Ke_weighGuest o1 o2 x3 m).bind (fun r3 =>
  rec o1 o2 (wI (x3 + 1)) r3)
  else some m)
def Ke_weigh_L2  : Nat → Nat → Nat → Int → zM → Option (zM)
  | 0, _, _, _, _ => none
  | n + 1, o1, o2, x3, m => Ke_weigh_B2 (Ke_weigh_L2 n) o1 o2 x3 m
def Ke_weigh (o1 : Nat) (o2 : Nat) (m : zM) : Option (zM) :=
  Ke_weigh_L2 1000000 o1 o2 0 m
def Ke_mayAsk_b60 (o1 : Nat) (x5 : Int) (a0 : Nat) (n0 : Nat) (s1 : Int) (s2 : Int) (m : zM) : Option (Int × zM) :=
  wr a0 n0 s1 s2 m (fun m1 =>
  wr 29 9 8 x5 m1 (fun m2 =>
  (Fo_valueOf (o1 + 14) 29 9 m2).bind (fun r3 =>
  (if r3.1 = 0 then
  some (0, r3.2)
  else some (1, r3.2)))))
def Ke_mayAsk (o1 : Nat) (o2 : Nat) (x3 : Int) (x4 : Int) (x5 : Int) (m : zM) : Option (Int × zM) :=
  (if m (o1 + 14) 1 = 0 then
  some (1, m)
  else (Ke_look o2 x3 x4 m).bind (fun r3 =>
  rd 26 48 (wI ((wI (x3 * 8)) + x4)) r3 (fun y6 =>
  wr 29 9 6 y6 r3 (fun m7 =>
  (Zo_isFeared o1 x3 x4 m7).bind (fun r8 =>
  (if r8 = 0 then
  Ke_mayAsk_b60 o1 x5 29 9 7 0 m7
  else Ke_mayAsk_b60 o1 x5 29 9 7 1 m7))))))
def Ke_favourite_B9 (rec : Nat → Nat → Int → Int → Int → Int → Int → Int → zM → Option (Int × zM)) (o1 : Nat) (o2 : Nat) (x3 : Int) (x4 : Int) (x5 : Int) (x6 : Int) (x7 : Int) (x8 : Int) (m : zM) : Option (Int × zM) :=
  (if x8 < m o1 1 then
  rd 26 48 (wI ((wI (x3 * 8)) + x8)) m (fun y3 =>
  (if x6 < y3 then
  (if anI (srI x4 x8) 1 = 0 then
  (Ke_mayAsk o1 o2 x3 x8 x5 m).bind (fun r6 =>
  (if r6.1 = 0 then
  rec o1 o2 x3 x4 x5 x6 x7 (wI (x8 + 1)) r6.2
  else rec o1 o2 x3 x4 x5 y3 x8 (wI (x8 + 1)) r6.2))
  else rec o1 o2 x3 x4 x5 x6 x7 (wI (x8 + 1)) m)
  else rec o1 o2 x3 x4 x5 x6 x7 (wI (x8 + 1)) m))
  else some (x7, m))
def Ke_favourite_L9  : Nat → Nat → Nat → Int → Int → Int → Int → Int → Int → zM → Option (Int × zM)
  | 0, _, _, _, _, _, _, _, _, _ => none
  | n + 1, o1, o2, x3, x4, x5, x6, x7, x8, m => Ke_favourite_B9 (Ke_favourite_L9 n) o1 o2 x3 x4 x5 x6 x7 x8 m
def Ke_favourite (o1 : Nat) (o2 : Nat) (x3 : Int) (x4 : Int) (x5 : Int) (m : zM) : Option (Int × zM) :=
  Ke_favourite_L9 1000000 o1 o2 x3 x4 x5 0 ((-1)) 0 m
def Ke_choose_b70 (rec : Nat → Nat → Int → Int → Int → Int → zM → Option (zM)) (o1 : Nat) (o2 : Nat) (x3 : Int) (x4 : Int) (x5 : Int) (x6 : Int) (m : zM) : Option (zM) :=
  rd 27 6 x6 m (fun y1 =>
  (if y1 = (-1) then
  rec o1 o2 x3 x4 x5 (wI (x6 + 1)) m
  else rd 27 6 x6 m (fun y3 =>
  lt (orI x4 (slI 1 y3)) (fun v4 =>
  rec o1 o2 x3 v4 (wI (x5 + (-1))) (wI (x6 + 1)) m))))
def Ke_choose_B12 (rec : Nat → Nat → Int → Int → Int → Int → zM → Option (zM)) (o1 : Nat) (o2 : Nat) (x3 : Int) (x4 : Int) (x5 : Int) (x6 : Int) (m : zM) : Option (zM) :=
  (if x6 < x3 then
  (if x6 < 6 then
  wr 27 6 x6 ((-1)) m (fun m3 =>
  (if 0 < x5 then
  (Zo_isAwake o1 x6 (m3 o2 1) m3).bind (fun r6 =>
  (if r6 = 0 then
  Ke_choose_b70 rec o1 o2 x3 x4 x5 x6 m3
  else (Ke_favourite o1 o2 x6 x4 x5 m3).bind (fun r10 =>
  wr 27 6 x6 r10.1 r10.2 (fun m13 =>
  Ke_choose_b70 rec o1 o2 x3 x4 x5 x6 m13))))
  else Ke_choose_b70 rec o1 o2 x3 x4 x5 x6 m3))
  else some m)
  else some m)
def Ke_choose_L12  : Nat → Nat → Nat → Int → Int → Int → Int → zM → Option (zM)
  | 0, _, _, _, _, _, _, _ => none
  | n + 1, o1, o2, x3, x4, x5, x6, m => Ke_choose_B12 (Ke_choose_L12 n) o1 o2 x3 x4 x5 x6 m
def Ke_choose (o1 : Nat) (o2 : Nat) (x3 : Int) (m : zM) : Option (zM) :=
  Ke_choose_L12 1000000 o1 o2 x3 0 (m o1 14) 0 m
def Ke_meet (o1 : Nat) (o2 : Nat) (x3 : Int) (x4 : Int) (m : zM) : Option (Int × zM) :=
  (Zo_isFeared o1 x3 x4 m).bind (fun r1 =>
  (if r1 = 0 then
  lt (wI ((wI (x3 * 8)) + x4)) (fun v5 =>
  rd (o2 + 5) 48 v5 m (fun y6 =>
  wr (o2 + 5) 48 v5 (min 99 (wI (y6 + 1))) m (fun m7 =>
  rd (o2 + 6) 48 v5 m7 (fun y8 =>
  wr (o2 + 6) 48 v5 (min 99 (wI (y8 + 1))) m7 (fun m9 =>
  (Ke_liking o1 o2 x3 x4 m9).bind (fun r10 =>
  (if r10.1 < r10.2 o1 15 then
  rd (o2 + 3) 8 x4 r10.2 (fun y15 =>
  wr (o2 + 3) 8 x4 (orI y15 (slI 1 x3)) r10.2 (fun m16 =>
  some (2, m16)))
  else rd (o2 + 6) 48 v5 r10.2 (fun y17 =>
  (if y17 < r10.2 o1 16 then
  some (1, r10.2)
  else wr (o2 + 2) 8 x4 x3 r10.2 (fun m20 =>
  some (3, m20)))))))))))
  else pf o2 2 (min 9999 (wI ((m o2 2) + (m o1 17)))) m (fun m23 =>
  some (0, m23))))
def St_keepRow (o0 : Nat) (x1 : Int) (x2 : Int) (x3 : Int) (m : zM) : Option (zM) :=
  (St_moment o0 m).bind (fun r1 =>
  lt (wI ((wI ((wI ((wI (r1 * 6)) * 8)) + (wI (x1 * 8)))) + x2)) (fun v4 =>
  wr (o0 + 7) 60 (rmI (wI ((m o0 10) + (m o0 11))) 60) (wI ((wI (v4 * 4)) + x3)) m (fun m7 =>
  (if m7 o0 11 < 60 then
  pf o0 11 (wI ((m7 o0 11) + 1)) m7 (fun m11 =>
  some m11)
  else pf o0 10 (rmI (wI ((m7 o0 10) + 1)) 60) m7 (fun m13 =>
  some m13)))))
def Ke_settle_B5 (rec : Nat → Nat → Int → Int → zM → Option (Int × zM)) (o1 : Nat) (o2 : Nat) (x3 : Int) (x4 : Int) (m : zM) : Option (Int × zM) :=
  (if x4 < m o1 0 then
  rd 27 6 x4 m (fun y3 =>
  (if y3 = (-1) then
  rec o1 o2 x3 (wI (x4 + 1)) m
  else rd 27 6 x4 m (fun y5 =>
  rd 27 6 x4 m (fun y6 =>
  (Ke_meet o1 o2 x4 y6 m).bind (fun r7 =>
  (St_keepRow o2 x4 y5 r7.1 r7.2).bind (fun r10 =>
  rec o1 o2 (wI (x3 + 1)) (wI (x4 + 1)) r10))))))
  else some (x3, m))
def Ke_settle_L5  : Nat → Nat → Nat → Int → Int → zM → Option (Int × zM)
  | 0, _, _, _, _, _ => none
  | n + 1, o1, o2, x3, x4, m => Ke_settle_B5 (Ke_settle_L5 n) o1 o2 x3 x4 m
def Ke_settle (o1 : Nat) (o2 : Nat) (m : zM) : Option (Int × zM) :=
  Ke_settle_L5 1000000 o1 o2 0 0 m
def St_passHour (o0 : Nat) (m : zM) : Option (zM) :=
  pf o0 1 (wI ((m o0 1) + 1)) m (fun m2 =>
  (if m2 o0 1 < 24 then
  some m2
  else pf o0 1 0 m2 (fun m5 =>
  pf o0 0 (wI ((m5 o0 0) + 1)) m5 (fun m7 =>
  (St_forgetDay o0 m7).bind (fun r8 =>
  some r8)))))
def Ke_playHour (o1 : Nat) (o2 : Nat) (m : zM) : Option (Int × zM) :=
  (Ke_weigh o1 o2 m).bind (fun r1 =>
  (Ke_choose o1 o2 (r1 o1 0) r1).bind (fun r5 =>
  (Ke_settle o1 o2 r5).bind (fun r8 =>
  (St_passHour o2 r8.2).bind (fun r11 =>
  some (r8.1, r11)))))
def C_asks_B38 (k65 : Int → zM → Option (Int × zM)) (rec : Int → Int → Int → zM → Option (Int × zM)) (x1 : Int) (x2 : Int) (x3 : Int) (m : zM) : Option (Int × zM) :=
  (if x3 < x2 then
  mro kdC 10 (m 0 12) (fun zz2 =>
  (Ke_playHour zz2 16 m).bind (fun r3 =>
  rec x1 x2 (wI (x3 + 1)) r3.2))
  else k65 x1 m)
def C_asks_L38 (k65 : Int → zM → Option (Int × zM)) : Nat → Int → Int → Int → zM → Option (Int × zM)
  | 0, _, _, _, _ => none
  | n + 1, x1, x2, x3, m => C_asks_B38 k65 (C_asks_L38 k65 n) x1 x2 x3 m
def C_asks (x1 : Int) (x2 : Int) (m : zM) : Option (Int × zM) :=
  mro kdC 10 (m 0 12) (fun zz1 =>
  (Zo_isBeast zz1 x1 m).bind (fun r2 =>
  (if r2 = 0 then
  some ((-1), m)
  else (if x2 < 0 then
  some ((-1), m)
  else (C_hoursToSee m).bind (fun r7 =>
  (if x2 < r7 then
  (St_copyFrom 16 8 m).bind (fun r11 =>
  C_asks_L38 (fun x1_14 m15 => mro kdC 10 (m15 0 12) (fun zz16 =>
  (Ke_weigh zz16 16 m15).bind (fun r17 =>
  mro kdC 10 (r17 0 12) (fun zz20 =>
  mro kdC 10 (r17 0 12) (fun zz21 =>
  (Ke_choose zz20 16 (r17 zz21 0) r17).bind (fun r23 =>
  rd 27 6 x1_14 r23 (fun y26 =>
  some (y26, r23)))))))) 1000000 x1 x2 0 r11)
  else some ((-1), m)))))))
def Ke_firstLonely_B2 (rec : Nat → Int → Int → Option (Int)) (o1 : Nat) (x2 : Int) (x3 : Int) (m : zM) : Option (Int) :=
  (if x3 < m o1 0 then
  (Zo_isAwake o1 x3 x2 m).bind (fun r3 =>
  (if r3 = 0 then
  rec o1 x2 (wI (x3 + 1))
  else rd 27 6 x3 m (fun y7 =>
  (if y7 = (-1) then
  some x3
  else rec o1 x2 (wI (x3 + 1))))))
  else some ((-1)))
def Ke_firstLonely_L2 (m : zM) : Nat → Nat → Int → Int → Option (Int)
  | 0, _, _, _ => none
  | n + 1, o1, x2, x3 => Ke_firstLonely_B2 (Ke_firstLonely_L2 m n) o1 x2 x3 m
def Ke_firstLonely (o1 : Nat) (x2 : Int) (m : zM) : Option (Int) :=
  Ke_firstLonely_L2 m 1000000 o1 x2 0
def C_alone_B29 (k97 : Int → Int → Int → zM → Option (Int × zM)) (rec : Int → Int → Int → zM → Option (Int × zM)) (x1 : Int) (x2 : Int) (x3 : Int) (m : zM) : Option (Int × zM) :=
  (if x3 < x2 then
  mro kdC 10 (m 0 12) (fun zz2 =>
  (Ke_weigh zz2 16 m).bind (fun r3 =>
  mro kdC 10 (r3 0 12) (fun zz6 =>
  mro kdC 10 (r3 0 12) (fun zz7 =>
  (Ke_choose zz6 16 (r3 zz7 0) r3).bind (fun r9 =>
  mro kdC 10 (r9 0 12) (fun zz12 =>
  (Ke_firstLonely zz12 (r9 16 1) r9).bind (fun r14 =>
  (if r14 = (-1) then
  mro kdC 10 (r9 0 12) (fun zz18 =>
  (Ke_settle zz18 16 r9).bind (fun r19 =>
  (St_passHour 16 r19.2).bind (fun r22 =>
  rec x1 x2 (wI (x3 + 1)) r22)))
  else k97 x1 x3 r14 r9))))))))
  else some ((-1), m))
def C_alone_L29 (k97 : Int → Int → Int → zM → Option (Int × zM)) : Nat → Int → Int → Int → zM → Option (Int × zM)
  | 0, _, _, _, _ => none
  | n + 1, x1, x2, x3, m => C_alone_B29 k97 (C_alone_L29 k97 n) x1 x2 x3 m
def C_alone_b11 (x1 : Int) (m : zM) : Option (Int × zM) :=
  (St_copyFrom 16 8 m).bind (fun r1 =>
  (C_hoursToSee r1).bind (fun r4 =>
  C_alone_L29 (fun x1_7 x3_7 x4_7 m8 => (if x1_7 = 0 then
  some (x3_7, m8)
  else some (x4_7, m8))) 1000000 x1 r4 0 r1))
def C_alone (x1 : Int) (m : zM) : Option (Int × zM) :=
  (if x1 = 0 then
  C_alone_b11 x1 m
  else (if x1 = 1 then
  C_alone_b11 x1 m
  else some ((-1), m)))
def J_bitCount_0f7a4 (x0 : Int) : Option (Int) :=
  lt (wI (x0 - (anI (usI x0 1) 1431655765))) (fun v1 =>
  lt (wI ((anI v1 858993459) + (anI (usI v1 2) 858993459))) (fun v2 =>
  lt (anI (wI (v2 + (usI v2 4))) 252645135) (fun v3 =>
  lt (wI (v3 + (usI v3 8))) (fun v4 =>
  lt (wI (v4 + (usI v4 16))) (fun v5 =>
  some (anI v5 63))))))
def Br_canBring (o0 : Nat) (a1 : Nat) (n1 : Nat) (x2 : Int) (x3 : Int) (x4 : Int) (m : zM) : Option (Int) :=
  (if anI (srI x4 x3) 1 = 0 then
  (J_bitCount_0f7a4 x4).bind (fun r2 =>
  (if r2 < m o0 14 then
  rd a1 n1 (wI ((wI (x2 * 8)) + x3)) m (fun y7 =>
  (if 0 < y7 then
  (Zo_isFeared o0 x2 x3 m).bind (fun r9 =>
  (if r9 = 0 then
  some 1
  else some 0))
  else some 0))
  else some 0))
  else some 0)
def Br_with (a1 : Nat) (n1 : Nat) (x2 : Int) (x3 : Int) (x4 : Int) (m : zM) : Option (Int) :=
  rd a1 n1 (wI ((wI (x2 * 8)) + x3)) m (fun y1 =>
  gi 7 (wI (x2 + 1)) (rd (32 + 1 + Int.toNat (wI (x2 + 1))) 256 (orI x4 (slI 1 x3)) m (fun y4 =>
  some (wI (y1 + y4)))))
def Br_mostFrom_B16 (rec : Nat → Nat → Nat → Int → Int → Int → Int → Option (Int)) (o1 : Nat) (a2 : Nat) (n2 : Nat) (x3 : Int) (x4 : Int) (x5 : Int) (x6 : Int) (m : zM) : Option (Int) :=
  (if x6 < m o1 1 then
  (Br_canBring o1 a2 n2 x3 x6 x4 m).bind (fun r3 =>
  (if r3 = 0 then
  rec o1 a2 n2 x3 x4 x5 (wI (x6 + 1))
  else (Br_with a2 n2 x3 x6 x4 m).bind (fun r7 =>
  rec o1 a2 n2 x3 x4 (max x5 r7) (wI (x6 + 1)))))
  else some x5)
def Br_mostFrom_L16 (m : zM) : Nat → Nat → Nat → Nat → Int → Int → Int → Int → Option (Int)
  | 0, _, _, _, _, _, _, _ => none
  | n + 1, o1, a2, n2, x3, x4, x5, x6 => Br_mostFrom_B16 (Br_mostFrom_L16 m n) o1 a2 n2 x3 x4 x5 x6 m
def Br_mostFrom (o1 : Nat) (a2 : Nat) (n2 : Nat) (x3 : Int) (x4 : Int) (m : zM) : Option (Int) :=
  gi 7 (wI (x3 + 1)) (rd (32 + 1 + Int.toNat (wI (x3 + 1))) 256 x4 m (fun y3 =>
  Br_mostFrom_L16 m 1000000 o1 a2 n2 x3 x4 y3 0))
def Br_follow_B25 (k95 : Nat → Nat → Nat → Int → Int → zM → Option (zM)) (rec : Nat → Nat → Nat → Int → Int → Int → zM → Option (zM)) (o1 : Nat) (a2 : Nat) (n2 : Nat) (x3 : Int) (x4 : Int) (x5 : Int) (m : zM) : Option (zM) :=
  (if x5 < m o1 1 then
  rd 31 6 x4 m (fun y3 =>
  (if y3 = (-1) then
  (Br_canBring o1 a2 n2 x4 x5 x3 m).bind (fun r5 =>
  (if r5 = 0 then
  rec o1 a2 n2 x3 x4 (wI (x5 + 1)) m
  else (Br_with a2 n2 x4 x5 x3 m).bind (fun r9 =>
  gi 7 x4 (rd (32 + 1 + Int.toNat x4) 256 x3 m (fun y14 =>
  (if r9 = y14 then
  wr 31 6 x4 x5 m (fun m16 =>
  rec o1 a2 n2 x3 x4 (wI (x5 + 1)) m16)
  else rec o1 a2 n2 x3 x4 (wI (x5 + 1)) m))))))
  else k95 o1 a2 n2 x3 x4 m))
  else k95 o1 a2 n2 x3 x4 m)
def Br_follow_L25 (k95 : Nat → Nat → Nat → Int → Int → zM → Option (zM)) : Nat → Nat → Nat → Nat → Int → Int → Int → zM → Option (zM)
  | 0, _, _, _, _, _, _, _ => none
  | n + 1, o1, a2, n2, x3, x4, x5, m => Br_follow_B25 k95 (Br_follow_L25 k95 n) o1 a2 n2 x3 x4 x5 m
def Br_follow_b95 (rec : Nat → Nat → Nat → Int → Int → zM → Option (zM)) (o1 : Nat) (a2 : Nat) (n2 : Nat) (x3 : Int) (x4 : Int) (m : zM) : Option (zM) :=
  rd 31 6 x4 m (fun y1 =>
  (if y1 = (-1) then
  rec o1 a2 n2 x3 (wI (x4 + 1)) m
  else rd 31 6 x4 m (fun y3 =>
  lt (orI x3 (slI 1 y3)) (fun v4 =>
  rec o1 a2 n2 v4 (wI (x4 + 1)) m))))
def Br_follow_B5 (rec : Nat → Nat → Nat → Int → Int → zM → Option (zM)) (o1 : Nat) (a2 : Nat) (n2 : Nat) (x3 : Int) (x4 : Int) (m : zM) : Option (zM) :=
  (if x4 < m o1 0 then
  wr 31 6 x4 ((-1)) m (fun m3 =>
  Br_follow_L25 (fun o1_4 a2_4 n2_4 x3_4 x4_4 m5 => Br_follow_b95 rec o1_4 a2_4 n2_4 x3_4 x4_4 m5) 1000000 o1 a2 n2 x3 x4 0 m3)
  else some m)
def Br_follow_L5  : Nat → Nat → Nat → Nat → Int → Int → zM → Option (zM)
  | 0, _, _, _, _, _, _ => none
  | n + 1, o1, a2, n2, x3, x4, m => Br_follow_B5 (Br_follow_L5 n) o1 a2 n2 x3 x4 m
def Br_follow (o1 : Nat) (a2 : Nat) (n2 : Nat) (m : zM) : Option (zM) :=
  Br_follow_L5 1000000 o1 a2 n2 0 0 m
def Br_find_B10 (k43 : Nat → Nat → Nat → Int → zM → Option (zM)) (rec : Nat → Nat → Nat → Int → Int → zM → Option (zM)) (o1 : Nat) (a2 : Nat) (n2 : Nat) (x3 : Int) (x4 : Int) (m : zM) : Option (zM) :=
  (if x4 < x3 then
  (if x4 < 256 then
  gi 7 (m o1 0) (wr (32 + 1 + Int.toNat (m o1 0)) 256 x4 0 m (fun m6 =>
  rec o1 a2 n2 x3 (wI (x4 + 1)) m6))
  else k43 o1 a2 n2 x3 m)
  else k43 o1 a2 n2 x3 m)
def Br_find_L10 (k43 : Nat → Nat → Nat → Int → zM → Option (zM)) : Nat → Nat → Nat → Nat → Int → Int → zM → Option (zM)
  | 0, _, _, _, _, _, _ => none
  | n + 1, o1, a2, n2, x3, x4, m => Br_find_B10 k43 (Br_find_L10 k43 n) o1 a2 n2 x3 x4 m
def Br_find_B59 (k99 : Nat → Nat → Nat → Int → Int → zM → Option (zM)) (rec : Nat → Nat → Nat → Int → Int → Int → zM → Option (zM)) (o1 : Nat) (a2 : Nat) (n2 : Nat) (x3 : Int) (x4 : Int) (x5 : Int) (m : zM) : Option (zM) :=
  (if x5 < x3 then
  (if x5 < 256 then
  gi 7 x4 ((Br_mostFrom o1 a2 n2 x4 x5 m).bind (fun r5 =>
  wr (32 + 1 + Int.toNat x4) 256 x5 r5 m (fun m8 =>
  rec o1 a2 n2 x3 x4 (wI (x5 + 1)) m8)))
  else k99 o1 a2 n2 x3 x4 m)
  else k99 o1 a2 n2 x3 x4 m)
def Br_find_L59 (k99 : Nat → Nat → Nat → Int → Int → zM → Option (zM)) : Nat → Nat → Nat → Nat → Int → Int → Int → zM → Option (zM)
  | 0, _, _, _, _, _, _, _ => none
  | n + 1, o1, a2, n2, x3, x4, x5, m => Br_find_B59 k99 (Br_find_L59 k99 n) o1 a2 n2 x3 x4 x5 m
def Br_find_B51 (k105 : Nat → Nat → Nat → zM → Option (zM)) (rec : Nat → Nat → Nat → Int → Int → zM → Option (zM)) (o1 : Nat) (a2 : Nat) (n2 : Nat) (x3 : Int) (x4 : Int) (m : zM) : Option (zM) :=
  (if x4 < 0 then
  k105 o1 a2 n2 m
  else Br_find_L59 (fun o1_2 a2_2 n2_2 x3_2 x4_2 m3 => rec o1_2 a2_2 n2_2 x3_2 (wI (x4_2 + (-1))) m3) 1000000 o1 a2 n2 x3 x4 0 m)
def Br_find_L51 (k105 : Nat → Nat → Nat → zM → Option (zM)) : Nat → Nat → Nat → Nat → Int → Int → zM → Option (zM)
  | 0, _, _, _, _, _, _ => none
  | n + 1, o1, a2, n2, x3, x4, m => Br_find_B51 k105 (Br_find_L51 k105 n) o1 a2 n2 x3 x4 m
def Br_find_b43 (o1 : Nat) (a2 : Nat) (n2 : Nat) (x3 : Int) (m : zM) : Option (zM) :=
  lt (wI ((m o1 0) - 1)) (fun v2 =>
  Br_find_L51 (fun o1_3 a2_3 n2_3 m4 => gi 7 0 (rd (32 + 1 + Int.toNat 0) 256 0 m4 (fun y7 =>
  pf 30 0 y7 m4 (fun m8 =>
  (Br_follow o1_3 a2_3 n2_3 m8).bind (fun r9 =>
  some r9))))) 1000000 o1 a2 n2 x3 v2 m)
def Br_find (o1 : Nat) (a2 : Nat) (n2 : Nat) (m : zM) : Option (zM) :=
  lt (slI 1 (m o1 1)) (fun v2 =>
  Br_find_L10 (fun o1_3 a2_3 n2_3 x3_3 m4 => Br_find_b43 o1_3 a2_3 n2_3 x3_3 m4) 1000000 o1 a2 n2 v2 0 m)
def C_bring_b18 (x1 : Int) (m : zM) : Option (Int × zM) :=
  mro kdC 10 (m 0 12) (fun zz1 =>
  (Ke_weigh zz1 8 m).bind (fun r2 =>
  mro kdC 10 (r2 0 12) (fun zz5 =>
  (Br_find zz5 26 48 r2).bind (fun r6 =>
  (if x1 = (-1) then
  some (r6 30 0, r6)
  else rd 31 6 x1 r6 (fun y11 =>
  some (y11, r6)))))))
def C_bring (x1 : Int) (m : zM) : Option (Int × zM) :=
  (if x1 = (-1) then
  C_bring_b18 x1 m
  else mro kdC 10 (m 0 12) (fun zz2 =>
  (Zo_isBeast zz2 x1 m).bind (fun r3 =>
  (if r3 = 0 then
  some ((-1), m)
  else C_bring_b18 x1 m))))
def Ke_findDress_B3 (k23 : Nat → Nat → Int → Int → zM → Option (zM)) (rec : Nat → Nat → Int → Int → Int → zM → Option (zM)) (o1 : Nat) (o2 : Nat) (x3 : Int) (x4 : Int) (x5 : Int) (m : zM) : Option (zM) :=
  (if 3 < x5 then
  k23 o1 o2 x3 x4 m
  else wr 28 4 x5 ((-1)) m (fun m2 =>
  rec o1 o2 x3 x4 (wI (x5 + 1)) m2))
def Ke_findDress_L3 (k23 : Nat → Nat → Int → Int → zM → Option (zM)) : Nat → Nat → Nat → Int → Int → Int → zM → Option (zM)
  | 0, _, _, _, _, _, _ => none
  | n + 1, o1, o2, x3, x4, x5, m => Ke_findDress_B3 k23 (Ke_findDress_L3 k23 n) o1 o2 x3 x4 x5 m
def Ke_findDress_b149 (rec : Nat → Nat → Int → Int → Int → Int → Int → Int → Int → zM → Option (zM)) (o1 : Nat) (o2 : Nat) (x3 : Int) (x4 : Int) (x5 : Int) (x6 : Int) (x7 : Int) (x8 : Int) (x9 : Int) (x10 : Int) (m : zM) : Option (zM) :=
  (C_setTriple (o2 + 1) 24 x5 (dvI x9 100) (rmI (dvI x9 10) 10) (rmI x9 10) m).bind (fun r1 =>
  (Ke_weighGuest o1 o2 x3 r1).bind (fun r4 =>
  (Ke_choose o1 o2 (wI (x4 + 1)) r4).bind (fun r7 =>
  rd 27 6 x4 r7 (fun y10 =>
  (if y10 = x3 then
  wr 28 4 0 x10 r7 (fun m12 =>
  (C_setTriple 28 4 1 (dvI x9 100) (rmI (dvI x9 10) 10) (rmI x9 10) m12).bind (fun r13 =>
  rec o1 o2 x3 x4 x5 x6 x7 x8 (wI (x9 + 1)) r13))
  else rec o1 o2 x3 x4 x5 x6 x7 x8 (wI (x9 + 1)) r7)))))
def Ke_findDress_B80 (rec : Nat → Nat → Int → Int → Int → Int → Int → Int → Int → zM → Option (zM)) (o1 : Nat) (o2 : Nat) (x3 : Int) (x4 : Int) (x5 : Int) (x6 : Int) (x7 : Int) (x8 : Int) (x9 : Int) (m : zM) : Option (zM) :=
  (if x9 < 1000 then
  lt (wI ((wI ((if 0 ≤ wI ((dvI x9 100) - x6) then wI ((dvI x9 100) - x6) else wI (0 - (wI ((dvI x9 100) - x6)))) + (if 0 ≤ wI ((rmI (dvI x9 10) 10) - x7) then wI ((rmI (dvI x9 10) 10) - x7) else wI (0 - (wI ((rmI (dvI x9 10) 10) - x7)))))) + (if 0 ≤ wI ((rmI x9 10) - x8) then wI ((rmI x9 10) - x8) else wI (0 - (wI ((rmI x9 10) - x8)))))) (fun v2 =>
  rd 28 4 0 m (fun y3 =>
  (if y3 = (-1) then
  Ke_findDress_b149 rec o1 o2 x3 x4 x5 x6 x7 x8 x9 v2 m
  else rd 28 4 0 m (fun y5 =>
  (if v2 < y5 then
  Ke_findDress_b149 rec o1 o2 x3 x4 x5 x6 x7 x8 x9 v2 m
  else rec o1 o2 x3 x4 x5 x6 x7 x8 (wI (x9 + 1)) m)))))
  else some m)
def Ke_findDress_L80  : Nat → Nat → Nat → Int → Int → Int → Int → Int → Int → Int → zM → Option (zM)
  | 0, _, _, _, _, _, _, _, _, _, _ => none
  | n + 1, o1, o2, x3, x4, x5, x6, x7, x8, x9, m => Ke_findDress_B80 (Ke_findDress_L80 n) o1 o2 x3 x4 x5 x6 x7 x8 x9 m
def Ke_findDress (o1 : Nat) (o2 : Nat) (x3 : Int) (x4 : Int) (m : zM) : Option (zM) :=
  Ke_findDress_L3 (fun o1_1 o2_1 x3_1 x4_1 m2 => (Ke_canMeet o1_1 o2_1 x4_1 x3_1 m2).bind (fun r3 =>
  (if r3 = 0 then
  some m2
  else lt (wI (x3_1 * 3)) (fun v7 =>
  rd (o2_1 + 1) 24 v7 m2 (fun y8 =>
  rd (o2_1 + 1) 24 (wI (v7 + 1)) m2 (fun y9 =>
  rd (o2_1 + 1) 24 (wI (v7 + 2)) m2 (fun y10 =>
  (Ke_weigh o1_1 o2_1 m2).bind (fun r11 =>
  Ke_findDress_L80 1000000 o1_1 o2_1 x3_1 x4_1 v7 y8 y9 y10 0 r11)))))))) 1000000 o1 o2 x3 x4 0 m
def C_dress (x1 : Int) (x2 : Int) (x3 : Int) (m : zM) : Option (Int × zM) :=
  mro kdC 10 (m 0 12) (fun zz1 =>
  (Zo_isGuest zz1 x1 m).bind (fun r2 =>
  (if r2 = 0 then
  some ((-1), m)
  else mro kdC 10 (m 0 12) (fun zz6 =>
  (Zo_isBeast zz6 x2 m).bind (fun r7 =>
  (if r7 = 0 then
  some ((-1), m)
  else (if x3 < 0 then
  some ((-1), m)
  else (if 3 < x3 then
  some ((-1), m)
  else (St_copyFrom 16 8 m).bind (fun r13 =>
  mro kdC 10 (r13 0 12) (fun zz16 =>
  (Ke_findDress zz16 16 x1 x2 r13).bind (fun r17 =>
  rd 28 4 x3 r17 (fun y20 =>
  some (y20, r17)))))))))))))
def Ta_holdsPairs_B30 (rec : Int → Int → Int → Option (Int)) (x1 : Int) (x2 : Int) (x3 : Int) (m : zM) : Option (Int) :=
  (if x3 < m 2 1 then
  rd 3 1600 x3 m (fun y3 =>
  (if rmI x3 2 = 0 then
  (if y3 < x1 then
  rec x1 x2 (wI (x3 + 1))
  else some 0)
  else (if y3 < x2 then
  rec x1 x2 (wI (x3 + 1))
  else some 0)))
  else some 1)
def Ta_holdsPairs_L30 (m : zM) : Nat → Int → Int → Int → Option (Int)
  | 0, _, _, _ => none
  | n + 1, x1, x2, x3 => Ta_holdsPairs_B30 (Ta_holdsPairs_L30 m n) x1 x2 x3 m
def Ta_holdsPairs (x1 : Int) (x2 : Int) (m : zM) : Option (Int) :=
  (if m 2 1 < 2 then
  some 0
  else (if 32 < m 2 1 then
  some 0
  else (if rmI (m 2 1) 2 = 0 then
  Ta_holdsPairs_L30 m 1000000 x1 x2 0
  else some 0)))
def Ta_pairsUnlike_B2 (rec : Int → Option (Int)) (x1 : Int) (m : zM) : Option (Int) :=
  (if wI (x1 + 1) < m 2 1 then
  rd 3 1600 x1 m (fun y3 =>
  rd 3 1600 (wI (x1 + 1)) m (fun y4 =>
  (if y3 = y4 then
  some 0
  else rec (wI (x1 + 2)))))
  else some 1)
def Ta_pairsUnlike_L2 (m : zM) : Nat → Int → Option (Int)
  | 0, _ => none
  | n + 1, x1 => Ta_pairsUnlike_B2 (Ta_pairsUnlike_L2 m n) x1 m
def Ta_pairsUnlike (m : zM) : Option (Int) :=
  Ta_pairsUnlike_L2 m 1000000 0
def Gu_hear_B7 (rec : Int → zM → Option (zM)) (x2 : Int) (m : zM) : Option (zM) :=
  (if wI (x2 + 1) < m 2 1 then
  (if wI (x2 + 1) < 32 then
  rd 3 1600 x2 m (fun y4 =>
  wr 42 32 x2 y4 m (fun m5 =>
  rd 3 1600 (wI (x2 + 1)) m5 (fun y6 =>
  wr 42 32 (wI (x2 + 1)) y6 m5 (fun m7 =>
  pf 40 0 (wI ((m7 40 0) + 1)) m7 (fun m9 =>
  rec (wI (x2 + 2)) m9)))))
  else some m)
  else some m)
def Gu_hear_L7  : Nat → Int → zM → Option (zM)
  | 0, _, _ => none
  | n + 1, x2, m => Gu_hear_B7 (Gu_hear_L7 n) x2 m
def Gu_hear (m : zM) : Option (zM) :=
  pf 40 0 0 m (fun m1 =>
  Gu_hear_L7 1000000 0 m1)
def C_tell_b55 (x1 : Int) (m : zM) : Option (Int × zM) :=
  pf 2 1 0 m (fun m1 =>
  (if x1 = 0 then
  (C_refuse 5 m1).bind (fun r3 =>
  some (r3.1, r3.2))
  else some (m1 40 0, m1)))
def C_tell_b39 (s0 : Int) (m : zM) : Option (Int × zM) :=
  (if s0 = 0 then
  C_tell_b55 s0 m
  else (Gu_hear m).bind (fun r2 =>
  C_tell_b55 s0 r2))
def C_tell_b38 (m : zM) : Option (Int × zM) :=
  C_tell_b39 0 m
def C_tell (m : zM) : Option (Int × zM) :=
  mro kdC 10 (m 0 12) (fun zz1 =>
  mro kdC 10 (m 0 12) (fun zz3 =>
  (Ta_holdsPairs (m zz1 1) (m zz3 1) m).bind (fun r5 =>
  (if r5 = 0 then
  C_tell_b38 m
  else (Ta_pairsUnlike m).bind (fun r9 =>
  (if r9 = 0 then
  C_tell_b38 m
  else C_tell_b39 1 m))))))
def Gu_digit (x0 : Int) (x1 : Int) : Option (Int) :=
  (if x1 = 0 then
  some (dvI x0 100)
  else (if x1 = 1 then
  some (rmI (dvI x0 10) 10)
  else some (rmI x0 10)))
def Gu_lead_B6 (rec : Int → Nat → Nat → Int → Int → Int → Int → Option (Int)) (x0 : Int) (a1 : Nat) (n1 : Nat) (x2 : Int) (x3 : Int) (x4 : Int) (x5 : Int) (m : zM) : Option (Int) :=
  (if x5 < 3 then
  (Gu_digit x0 x5).bind (fun r2 =>
  rd a1 n1 (wI ((wI (x2 * 3)) + x5)) m (fun y5 =>
  rd a1 n1 (wI ((wI (x3 * 3)) + x5)) m (fun y6 =>
  lt (wI (x4 + (wI (r2 * (wI (y5 - y6)))))) (fun v7 =>
  rec x0 a1 n1 x2 x3 v7 (wI (x5 + 1))))))
  else some x4)
def Gu_lead_L6 (m : zM) : Nat → Int → Nat → Nat → Int → Int → Int → Int → Option (Int)
  | 0, _, _, _, _, _, _, _ => none
  | n + 1, x0, a1, n1, x2, x3, x4, x5 => Gu_lead_B6 (Gu_lead_L6 m n) x0 a1 n1 x2 x3 x4 x5 m
def Gu_lead (x0 : Int) (a1 : Nat) (n1 : Nat) (x2 : Int) (x3 : Int) (m : zM) : Option (Int) :=
  Gu_lead_L6 m 1000000 x0 a1 n1 x2 x3 0 0
def Gu_fits_B2 (rec : Int → Nat → Nat → Int → Option (Int)) (x1 : Int) (a2 : Nat) (n2 : Nat) (x3 : Int) (m : zM) : Option (Int) :=
  (if x3 < m 40 0 then
  rd 42 32 (wI (2 * x3)) m (fun y3 =>
  rd 42 32 (wI ((wI (2 * x3)) + 1)) m (fun y4 =>
  (Gu_lead x1 a2 n2 y3 y4 m).bind (fun r5 =>
  (if 0 < r5 then
  rec x1 a2 n2 (wI (x3 + 1))
  else some 0))))
  else some 1)
def Gu_fits_L2 (m : zM) : Nat → Int → Nat → Nat → Int → Option (Int)
  | 0, _, _, _, _ => none
  | n + 1, x1, a2, n2, x3 => Gu_fits_B2 (Gu_fits_L2 m n) x1 a2 n2 x3 m
def Gu_fits (x1 : Int) (a2 : Nat) (n2 : Nat) (m : zM) : Option (Int) :=
  Gu_fits_L2 m 1000000 x1 a2 n2 0
def Gu_gather_B7 (rec : Nat → Nat → Int → zM → Option (zM)) (a1 : Nat) (n1 : Nat) (x2 : Int) (m : zM) : Option (zM) :=
  (if x2 < 1000 then
  (Gu_fits x2 a1 n1 m).bind (fun r2 =>
  (if r2 = 0 then
  rec a1 n1 (wI (x2 + 1)) m
  else wr 43 1000 (m 40 1) x2 m (fun m7 =>
  pf 40 1 (wI ((m7 40 1) + 1)) m7 (fun m9 =>
  rec a1 n1 (wI (x2 + 1)) m9))))
  else some m)
def Gu_gather_L7  : Nat → Nat → Nat → Int → zM → Option (zM)
  | 0, _, _, _, _ => none
  | n + 1, a1, n1, x2, m => Gu_gather_B7 (Gu_gather_L7 n) a1 n1 x2 m
def Gu_gather (a1 : Nat) (n1 : Nat) (m : zM) : Option (zM) :=
  pf 40 1 0 m (fun m1 =>
  Gu_gather_L7 1000000 a1 n1 0 m1)
def Gu_least_B4 (rec : Int → Int → Int → Option (Int)) (x1 : Int) (x2 : Int) (x3 : Int) (m : zM) : Option (Int) :=
  (if x3 < m 40 1 then
  rd 43 1000 x3 m (fun y3 =>
  (Gu_digit y3 x1).bind (fun r4 =>
  (if x2 = (-1) then
  rec x1 r4 (wI (x3 + 1))
  else rec x1 (min x2 r4) (wI (x3 + 1)))))
  else some x2)
def Gu_least_L4 (m : zM) : Nat → Int → Int → Int → Option (Int)
  | 0, _, _, _ => none
  | n + 1, x1, x2, x3 => Gu_least_B4 (Gu_least_L4 m n) x1 x2 x3 m
def Gu_least (x1 : Int) (m : zM) : Option (Int) :=
  Gu_least_L4 m 1000000 x1 ((-1)) 0
def Gu_greatest_B4 (rec : Int → Int → Int → Option (Int)) (x1 : Int) (x2 : Int) (x3 : Int) (m : zM) : Option (Int) :=
  (if x3 < m 40 1 then
  rd 43 1000 x3 m (fun y3 =>
  (Gu_digit y3 x1).bind (fun r4 =>
  rec x1 (max x2 r4) (wI (x3 + 1))))
  else some x2)
def Gu_greatest_L4 (m : zM) : Nat → Int → Int → Int → Option (Int)
  | 0, _, _, _ => none
  | n + 1, x1, x2, x3 => Gu_greatest_B4 (Gu_greatest_L4 m n) x1 x2 x3 m
def Gu_greatest (x1 : Int) (m : zM) : Option (Int) :=
  Gu_greatest_L4 m 1000000 x1 ((-1)) 0
def C_tastes (x1 : Int) (m : zM) : Option (Int × zM) :=
  (if x1 < 0 then
  some ((-1), m)
  else (if 6 < x1 then
  some ((-1), m)
  else (Gu_gather 9 24 m).bind (fun r3 =>
  (if x1 = 0 then
  some (r3 40 1, r3)
  else (if 3 < x1 then
  (Gu_greatest (wI ((wI (x1 - 1)) - 3)) r3).bind (fun r9 =>
  some (r9, r3))
  else (Gu_least (wI (x1 - 1)) r3).bind (fun r12 =>
  some (r12, r3)))))))
def Gu_mostLeft_B9 (k58 : Int → Int → Option (Int)) (rec : Nat → Nat → Int → Int → Int → Int → Int → Option (Int)) (a1 : Nat) (n1 : Nat) (x2 : Int) (x3 : Int) (x4 : Int) (x5 : Int) (x6 : Int) (m : zM) : Option (Int) :=
  (if x6 < m 40 1 then
  rd 43 1000 x6 m (fun y3 =>
  (Gu_lead y3 a1 n1 x2 x3 m).bind (fun r4 =>
  (if 0 < r4 then
  rec a1 n1 x2 x3 (wI (x4 + 1)) x5 (wI (x6 + 1))
  else (if r4 < 0 then
  rec a1 n1 x2 x3 x4 (wI (x5 + 1)) (wI (x6 + 1))
  else rec a1 n1 x2 x3 x4 x5 (wI (x6 + 1))))))
  else k58 x4 x5)
def Gu_mostLeft_L9 (k58 : Int → Int → Option (Int)) (m : zM) : Nat → Nat → Nat → Int → Int → Int → Int → Int → Option (Int)
  | 0, _, _, _, _, _, _, _ => none
  | n + 1, a1, n1, x2, x3, x4, x5, x6 => Gu_mostLeft_B9 k58 (Gu_mostLeft_L9 k58 m n) a1 n1 x2 x3 x4 x5 x6 m
def Gu_mostLeft (a1 : Nat) (n1 : Nat) (x2 : Int) (x3 : Int) (m : zM) : Option (Int) :=
  Gu_mostLeft_L9 (fun x4_1 x5_1 => some (max (max x4_1 x5_1) (wI ((wI ((m 40 1) - x4_1)) - x5_1)))) m 1000000 a1 n1 x2 x3 0 0 0
def Gu_findPair_B31 (k87 : Int → Nat → Nat → Int → zM → Option (zM)) (rec : Int → Nat → Nat → Int → Int → zM → Option (zM)) (x1 : Int) (a2 : Nat) (n2 : Nat) (x3 : Int) (x4 : Int) (m : zM) : Option (zM) :=
  (if x4 < x1 then
  (Gu_mostLeft a2 n2 x3 x4 m).bind (fun r2 =>
  rd 41 3 2 m (fun y5 =>
  (if y5 = (-1) then
  (C_setTriple 41 3 0 x3 x4 r2 m).bind (fun r7 =>
  rec x1 a2 n2 x3 (wI (x4 + 1)) r7)
  else rd 41 3 2 m (fun y10 =>
  (if r2 < y10 then
  (C_setTriple 41 3 0 x3 x4 r2 m).bind (fun r12 =>
  rec x1 a2 n2 x3 (wI (x4 + 1)) r12)
  else rec x1 a2 n2 x3 (wI (x4 + 1)) m)))))
  else k87 x1 a2 n2 x3 m)
def Gu_findPair_L31 (k87 : Int → Nat → Nat → Int → zM → Option (zM)) : Nat → Int → Nat → Nat → Int → Int → zM → Option (zM)
  | 0, _, _, _, _, _, _ => none
  | n + 1, x1, a2, n2, x3, x4, m => Gu_findPair_B31 k87 (Gu_findPair_L31 k87 n) x1 a2 n2 x3 x4 m
def Gu_findPair_B21 (rec : Int → Nat → Nat → Int → zM → Option (zM)) (x1 : Int) (a2 : Nat) (n2 : Nat) (x3 : Int) (m : zM) : Option (zM) :=
  (if x3 < x1 then
  lt (wI (x3 + 1)) (fun v2 =>
  Gu_findPair_L31 (fun x1_3 a2_3 n2_3 x3_3 m4 => rec x1_3 a2_3 n2_3 (wI (x3_3 + 1)) m4) 1000000 x1 a2 n2 x3 v2 m)
  else some m)
def Gu_findPair_L21  : Nat → Int → Nat → Nat → Int → zM → Option (zM)
  | 0, _, _, _, _, _ => none
  | n + 1, x1, a2, n2, x3, m => Gu_findPair_B21 (Gu_findPair_L21 n) x1 a2 n2 x3 m
def Gu_findPair (x1 : Int) (a2 : Nat) (n2 : Nat) (m : zM) : Option (zM) :=
  (C_setTriple 41 3 0 ((-1)) ((-1)) ((-1)) m).bind (fun r1 =>
  (if r1 40 1 = 0 then
  some r1
  else Gu_findPair_L21 1000000 x1 a2 n2 0 r1))
def C_send (x1 : Int) (m : zM) : Option (Int × zM) :=
  (if x1 < 0 then
  some ((-1), m)
  else (if 2 < x1 then
  some ((-1), m)
  else (Gu_gather 9 24 m).bind (fun r3 =>
  mro kdC 10 (r3 0 12) (fun zz6 =>
  (Gu_findPair (r3 zz6 1) 9 24 r3).bind (fun r8 =>
  rd 41 3 x1 r8 (fun y11 =>
  some (y11, r8)))))))
def Ri_hold_B8 (rec : Nat → Nat → Int → zM → Option (zM)) (o1 : Nat) (o2 : Nat) (x4 : Int) (m : zM) : Option (zM) :=
  (if x4 < m o1 0 then
  (Ke_favourite o1 o2 x4 0 (max 1 (m o1 14)) m).bind (fun r4 =>
  wr 45 6 x4 r4.1 r4.2 (fun m7 =>
  wr 46 6 x4 ((-1)) m7 (fun m8 =>
  wr 47 6 x4 ((-1)) m8 (fun m9 =>
  rd 45 6 x4 m9 (fun y10 =>
  (if y10 = (-1) then
  rec o1 o2 (wI (x4 + 1)) m9
  else pf 44 4 (orI (m9 44 4) (slI 1 x4)) m9 (fun m13 =>
  rec o1 o2 (wI (x4 + 1)) m13)))))))
  else some m)
def Ri_hold_L8  : Nat → Nat → Nat → Int → zM → Option (zM)
  | 0, _, _, _, _ => none
  | n + 1, o1, o2, x4, m => Ri_hold_B8 (Ri_hold_L8 n) o1 o2 x4 m
def Ri_hold (o1 : Nat) (o2 : Nat) (m : zM) : Option (zM) :=
  pf 44 4 0 m (fun m1 =>
  Ri_hold_L8 1000000 o1 o2 0 m1)
def Ri_isLeft (x1 : Int) (m : zM) : Option (Int) :=
  (if anI (srI (m 44 4) x1) 1 = 0 then
  some 0
  else some 1)
def Ri_pointed_B24 (rec : Nat → Nat → Int → Int → Int → Int → zM → Option (Int × zM)) (o1 : Nat) (o2 : Nat) (x4 : Int) (x5 : Int) (x6 : Int) (x7 : Int) (m : zM) : Option (Int × zM) :=
  (if x7 < m o1 0 then
  (Ri_isLeft x7 m).bind (fun r3 =>
  (if r3 = 0 then
  rec o1 o2 x4 x5 x6 (wI (x7 + 1)) m
  else rd 45 6 x7 m (fun y7 =>
  (Ke_liking o1 o2 x4 y7 m).bind (fun r8 =>
  (if x6 < r8.1 then
  rec o1 o2 x4 x7 r8.1 (wI (x7 + 1)) r8.2
  else rec o1 o2 x4 x5 x6 (wI (x7 + 1)) r8.2)))))
  else some (x5, m))
def Ri_pointed_L24  : Nat → Nat → Nat → Int → Int → Int → Int → zM → Option (Int × zM)
  | 0, _, _, _, _, _, _, _ => none
  | n + 1, o1, o2, x4, x5, x6, x7, m => Ri_pointed_B24 (Ri_pointed_L24 n) o1 o2 x4 x5 x6 x7 m
def Ri_pointed (o1 : Nat) (o2 : Nat) (x4 : Int) (m : zM) : Option (Int × zM) :=
  rd 45 6 x4 m (fun y1 =>
  (Ke_liking o1 o2 x4 y1 m).bind (fun r2 =>
  Ri_pointed_L24 1000000 o1 o2 x4 x4 r2.1 0 r2.2))
def Ri_goesRound_B9 (k33 : Int → Int → Option (Int)) (rec : Int → Int → Int → Option (Int)) (x1 : Int) (x2 : Int) (x3 : Int) (m : zM) : Option (Int) :=
  (if x3 < 6 then
  (if x2 = x1 then
  k33 x1 x2
  else rd 48 6 x2 m (fun y3 =>
  rec x1 y3 (wI (x3 + 1))))
  else k33 x1 x2)
def Ri_goesRound_L9 (k33 : Int → Int → Option (Int)) (m : zM) : Nat → Int → Int → Int → Option (Int)
  | 0, _, _, _ => none
  | n + 1, x1, x2, x3 => Ri_goesRound_B9 k33 (Ri_goesRound_L9 k33 m n) x1 x2 x3 m
def Ri_goesRound_b33 (x1 : Int) (x2 : Int) (m : zM) : Option (Int) :=
  (if x2 = x1 then
  some 1
  else some 0)
def Ri_goesRound (x1 : Int) (m : zM) : Option (Int) :=
  rd 48 6 x1 m (fun y1 =>
  Ri_goesRound_L9 (fun x1_2 x2_2 => Ri_goesRound_b33 x1_2 x2_2 m) m 1000000 x1 y1 0)
def Ri_leave_B5 (rec : Nat → Int → Int → Int → zM → Option (zM)) (o1 : Nat) (x2 : Int) (x3 : Int) (x4 : Int) (m : zM) : Option (zM) :=
  (if x4 < m o1 0 then
  (Ri_isLeft x4 m).bind (fun r3 =>
  (if r3 = 0 then
  rec o1 x2 x3 (wI (x4 + 1)) m
  else (Ri_goesRound x4 m).bind (fun r7 =>
  (if r7 = 0 then
  rec o1 x2 x3 (wI (x4 + 1)) m
  else rd 48 6 x4 m (fun y11 =>
  rd 45 6 y11 m (fun y12 =>
  wr 46 6 x4 y12 m (fun m13 =>
  wr 47 6 x4 x2 m13 (fun m14 =>
  lt (orI x3 (slI 1 x4)) (fun v15 =>
  rec o1 x2 v15 (wI (x4 + 1)) m14)))))))))
  else pf 44 4 (anI (m 44 4) (xoI x3 ((-1)))) m (fun m17 =>
  some m17))
def Ri_leave_L5  : Nat → Nat → Int → Int → Int → zM → Option (zM)
  | 0, _, _, _, _, _ => none
  | n + 1, o1, x2, x3, x4, m => Ri_leave_B5 (Ri_leave_L5 n) o1 x2 x3 x4 m
def Ri_leave (o1 : Nat) (x2 : Int) (m : zM) : Option (zM) :=
  Ri_leave_L5 1000000 o1 x2 0 0 m
def Ri_find_B27 (k67 : Nat → Nat → Int → zM → Option (zM)) (rec : Nat → Nat → Int → Int → zM → Option (zM)) (o1 : Nat) (o2 : Nat) (x4 : Int) (x5 : Int) (m : zM) : Option (zM) :=
  (if x5 < m o1 0 then
  (Ri_isLeft x5 m).bind (fun r3 =>
  (if r3 = 0 then
  rec o1 o2 x4 (wI (x5 + 1)) m
  else (Ri_pointed o1 o2 x5 m).bind (fun r7 =>
  wr 48 6 x5 r7.1 r7.2 (fun m10 =>
  rec o1 o2 x4 (wI (x5 + 1)) m10))))
  else k67 o1 o2 x4 m)
def Ri_find_L27 (k67 : Nat → Nat → Int → zM → Option (zM)) : Nat → Nat → Nat → Int → Int → zM → Option (zM)
  | 0, _, _, _, _, _ => none
  | n + 1, o1, o2, x4, x5, m => Ri_find_B27 k67 (Ri_find_L27 k67 n) o1 o2 x4 x5 m
def Ri_find_B10 (rec : Nat → Nat → Int → zM → Option (zM)) (o1 : Nat) (o2 : Nat) (x4 : Int) (m : zM) : Option (zM) :=
  (if 6 < x4 then
  some m
  else (if m 44 4 = 0 then
  some m
  else Ri_find_L27 (fun o1_4 o2_4 x4_4 m5 => (Ri_leave o1_4 x4_4 m5).bind (fun r6 =>
  rec o1_4 o2_4 (wI (x4_4 + 1)) r6)) 1000000 o1 o2 x4 0 m))
def Ri_find_L10  : Nat → Nat → Nat → Int → zM → Option (zM)
  | 0, _, _, _, _ => none
  | n + 1, o1, o2, x4, m => Ri_find_B10 (Ri_find_L10 n) o1 o2 x4 m
def Ri_find (o1 : Nat) (o2 : Nat) (m : zM) : Option (zM) :=
  (Ri_hold o1 o2 m).bind (fun r1 =>
  Ri_find_L10 1000000 o1 o2 1 r1)
def C_round (x1 : Int) (x2 : Int) (m : zM) : Option (Int × zM) :=
  mro kdC 10 (m 0 12) (fun zz1 =>
  (Zo_isBeast zz1 x1 m).bind (fun r2 =>
  (if r2 = 0 then
  some ((-1), m)
  else mro kdC 10 (m 0 12) (fun zz6 =>
  (Ke_weigh zz6 8 m).bind (fun r7 =>
  mro kdC 10 (r7 0 12) (fun zz10 =>
  (Ri_find zz10 8 r7).bind (fun r11 =>
  (if x2 = 0 then rd 46 6 x1 r11 (fun y17 =>
  some (y17, r11))
  else if x2 = 1 then rd 47 6 x1 r11 (fun y18 =>
  some (y18, r11))
  else if x2 = 2 then rd 45 6 x1 r11 (fun y19 =>
  some (y19, r11))
  else some ((-1), r11)))))))))
def Wa_stepsTo_B4 (rec : Nat → Nat → Int → Int → Int → Option (Int)) (a0 : Nat) (n0 : Nat) (x1 : Int) (x2 : Int) (x3 : Int) (m : zM) : Option (Int) :=
  (if x3 < 6 then
  (if anI (srI x1 x3) 1 = 0 then
  rec a0 n0 x1 x2 (wI (x3 + 1))
  else rd a0 n0 x3 m (fun y3 =>
  lt (wI (x2 + (wI (2 * y3)))) (fun v4 =>
  rec a0 n0 x1 v4 (wI (x3 + 1)))))
  else some x2)
def Wa_stepsTo_L4 (m : zM) : Nat → Nat → Nat → Int → Int → Int → Option (Int)
  | 0, _, _, _, _, _ => none
  | n + 1, a0, n0, x1, x2, x3 => Wa_stepsTo_B4 (Wa_stepsTo_L4 m n) a0 n0 x1 x2 x3 m
def Wa_stepsTo (a0 : Nat) (n0 : Nat) (x1 : Int) (m : zM) : Option (Int) :=
  Wa_stepsTo_L4 m 1000000 a0 n0 x1 0 0
def Wa_sharedByOneMore_B9 (rec : Int → Int → Int → Option (Int)) (x1 : Int) (x2 : Int) (x3 : Int) (m : zM) : Option (Int) :=
  (if x1 < x3 then
  some x2
  else (if anI x3 (xoI x1 ((-1))) = 0 then
  rd 50 64 x3 m (fun y3 =>
  rd 51 64 (anI x1 (xoI x3 ((-1)))) m (fun y4 =>
  lt (min x2 (max y3 y4)) (fun v5 =>
  rec x1 v5 (wI (x3 + 1)))))
  else rec x1 x2 (wI (x3 + 1))))
def Wa_sharedByOneMore_L9 (m : zM) : Nat → Int → Int → Int → Option (Int)
  | 0, _, _, _ => none
  | n + 1, x1, x2, x3 => Wa_sharedByOneMore_B9 (Wa_sharedByOneMore_L9 m n) x1 x2 x3 m
def Wa_sharedByOneMore (x1 : Int) (m : zM) : Option (Int) :=
  rd 51 64 x1 m (fun y1 =>
  Wa_sharedByOneMore_L9 m 1000000 x1 y1 1)
def Wa_least_B15 (k55 : Int → Int → zM → Option (Int × zM)) (rec : Nat → Nat → Int → Int → Int → zM → Option (Int × zM)) (a1 : Nat) (n1 : Nat) (x2 : Int) (x3 : Int) (x4 : Int) (m : zM) : Option (Int × zM) :=
  (if x4 < 64 then
  (Wa_stepsTo a1 n1 x4 m).bind (fun r2 =>
  wr 50 64 x4 r2 m (fun m5 =>
  rd 50 64 x4 m5 (fun y6 =>
  wr 51 64 x4 y6 m5 (fun m7 =>
  rec a1 n1 x2 x3 (wI (x4 + 1)) m7))))
  else k55 x2 x3 m)
def Wa_least_L15 (k55 : Int → Int → zM → Option (Int × zM)) : Nat → Nat → Nat → Int → Int → Int → zM → Option (Int × zM)
  | 0, _, _, _, _, _, _ => none
  | n + 1, a1, n1, x2, x3, x4, m => Wa_least_B15 k55 (Wa_least_L15 k55 n) a1 n1 x2 x3 x4 m
def Wa_least_B68 (k92 : Int → Int → Int → zM → Option (Int × zM)) (rec : Int → Int → Int → Int → zM → Option (Int × zM)) (x2 : Int) (x3 : Int) (x4 : Int) (x5 : Int) (m : zM) : Option (Int × zM) :=
  (if 0 < x5 then
  (Wa_sharedByOneMore x5 m).bind (fun r2 =>
  wr 51 64 x5 r2 m (fun m5 =>
  rec x2 x3 x4 (wI (x5 + (-1))) m5))
  else k92 x2 x3 x4 m)
def Wa_least_L68 (k92 : Int → Int → Int → zM → Option (Int × zM)) : Nat → Int → Int → Int → Int → zM → Option (Int × zM)
  | 0, _, _, _, _, _ => none
  | n + 1, x2, x3, x4, x5, m => Wa_least_B68 k92 (Wa_least_L68 k92 n) x2 x3 x4 x5 m
def Wa_least_B58 (rec : Int → Int → Int → zM → Option (Int × zM)) (x2 : Int) (x3 : Int) (x4 : Int) (m : zM) : Option (Int × zM) :=
  (if x3 < x4 then
  rd 51 64 x2 m (fun y2 =>
  some (y2, m))
  else Wa_least_L68 (fun x2_3 x3_3 x4_3 m4 => rec x2_3 x3_3 (wI (x4_3 + 1)) m4) 1000000 x2 x3 x4 63 m)
def Wa_least_L58  : Nat → Int → Int → Int → zM → Option (Int × zM)
  | 0, _, _, _, _ => none
  | n + 1, x2, x3, x4, m => Wa_least_B58 (Wa_least_L58 n) x2 x3 x4 m
def Wa_least (a1 : Nat) (n1 : Nat) (x2 : Int) (x3 : Int) (m : zM) : Option (Int × zM) :=
  (if x2 < 0 then
  some ((-1), m)
  else (if x2 < 64 then
  Wa_least_L15 (fun x2_3 x3_3 m4 => Wa_least_L58 1000000 x2_3 x3_3 2 m4) 1000000 a1 n1 x2 x3 0 m
  else some ((-1), m)))
def C_walk (x1 : Int) (x2 : Int) (m : zM) : Option (Int × zM) :=
  (if x1 < 0 then
  some ((-1), m)
  else mro kdC 10 (m 0 12) (fun zz2 =>
  (if x1 < slI 1 (m zz2 0) then
  (if x2 < 1 then
  some ((-1), m)
  else (if 6 < x2 then
  some ((-1), m)
  else mro kdC 10 (m 0 12) (fun zz7 =>
  (Wa_least (zz7 + 4) 6 x1 x2 m).bind (fun r8 =>
  some (r8.1, r8.2)))))
  else some ((-1), m))))
def Ke_follow_B6 (rec : Nat → Int → Int → Option (Int)) (o1 : Nat) (x4 : Int) (x5 : Int) (m : zM) : Option (Int) :=
  (if x5 < m o1 0 then
  (if wI ((wI (x4 * 2)) + 1) < m 2 1 then
  rd 27 6 x5 m (fun y5 =>
  (if y5 = (-1) then
  rec o1 x4 (wI (x5 + 1))
  else (Zo_isFeared o1 x5 y5 m).bind (fun r7 =>
  (if r7 = 0 then
  rd 3 1600 (wI (x4 * 2)) m (fun y11 =>
  (if y11 = x5 then
  rd 3 1600 (wI ((wI (x4 * 2)) + 1)) m (fun y13 =>
  (if y13 = y5 then
  rec o1 (wI (x4 + 1)) (wI (x5 + 1))
  else rec o1 x4 (wI (x5 + 1))))
  else rec o1 x4 (wI (x5 + 1))))
  else rec o1 x4 (wI (x5 + 1))))))
  else some x4)
  else some x4)
def Ke_follow_L6 (m : zM) : Nat → Nat → Int → Int → Option (Int)
  | 0, _, _, _ => none
  | n + 1, o1, x4, x5 => Ke_follow_B6 (Ke_follow_L6 m n) o1 x4 x5 m
def Ke_follow (o1 : Nat) (x3 : Int) (m : zM) : Option (Int) :=
  Ke_follow_L6 m 1000000 o1 x3 0
def C_hoursUntilCome_B32 (rec : Int → Int → Int → zM → Option (Int × zM)) (x1 : Int) (x2 : Int) (x3 : Int) (m : zM) : Option (Int × zM) :=
  (if x3 < x1 then
  mro kdC 10 (m 0 12) (fun zz2 =>
  (Ke_weigh zz2 16 m).bind (fun r3 =>
  mro kdC 10 (r3 0 12) (fun zz6 =>
  mro kdC 10 (r3 0 12) (fun zz7 =>
  (Ke_choose zz6 16 (r3 zz7 0) r3).bind (fun r9 =>
  mro kdC 10 (r9 0 12) (fun zz12 =>
  (Ke_follow zz12 x2 r9).bind (fun r13 =>
  (if wI (r13 * 2) < r9 2 1 then
  mro kdC 10 (r9 0 12) (fun zz18 =>
  (Ke_settle zz18 16 r9).bind (fun r19 =>
  (St_passHour 16 r19.2).bind (fun r22 =>
  rec x1 r13 (wI (x3 + 1)) r22)))
  else some (wI (x3 + 1), r9)))))))))
  else some ((-1), m))
def C_hoursUntilCome_L32  : Nat → Int → Int → Int → zM → Option (Int × zM)
  | 0, _, _, _, _ => none
  | n + 1, x1, x2, x3, m => C_hoursUntilCome_B32 (C_hoursUntilCome_L32 n) x1 x2 x3 m
def C_hoursUntilCome (m : zM) : Option (Int × zM) :=
  (St_copyFrom 16 8 m).bind (fun r1 =>
  (St_moment 8 r1).bind (fun r4 =>
  lt (min 100 (wI (23999 - r4))) (fun v7 =>
  C_hoursUntilCome_L32 1000000 v7 0 0 r1)))
def C_torn (m : zM) : Option (Int × zM) :=
  mro kdC 10 (m 0 12) (fun zz1 =>
  mro kdC 10 (m 0 12) (fun zz3 =>
  (Ta_holdsPairs (m zz1 0) (m zz3 1) m).bind (fun r5 =>
  (if r5 = 0 then
  (C_refuse 5 m).bind (fun r9 =>
  pf 2 1 0 r9.2 (fun m12 =>
  some (r9.1, m12)))
  else (C_hoursUntilCome m).bind (fun r13 =>
  pf 2 1 0 r13.2 (fun m16 =>
  some (r13.1, m16)))))))
def C_canGoBy (x1 : Int) (m : zM) : Option (Int) :=
  (if x1 < 1 then
  some 0
  else (if 200 < x1 then
  some 0
  else (St_moment 8 m).bind (fun r3 =>
  (if wI (23999 - r3) < x1 then
  some 0
  else some 1))))
def C_remember (m : zM) : Option (zM) :=
  gi 20 (rmI (wI ((m 0 14) + (m 0 15))) 20) ((St_copyFrom (89 + 8 * Int.toNat (rmI (wI ((m 0 14) + (m 0 15))) 20)) 8 m).bind (fun r5 =>
  (if r5 0 15 < 20 then
  pf 0 15 (wI ((r5 0 15) + 1)) r5 (fun m11 =>
  some m11)
  else pf 0 14 (rmI (wI ((r5 0 14) + 1)) 20) r5 (fun m13 =>
  some m13))))
def C_hours_B22 (rec : Int → Int → Int → zM → Option (Int × zM)) (x1 : Int) (x2 : Int) (x3 : Int) (m : zM) : Option (Int × zM) :=
  (if x3 < x1 then
  mro kdC 10 (m 0 12) (fun zz2 =>
  (Ke_playHour zz2 8 m).bind (fun r3 =>
  lt (wI (x2 + r3.1)) (fun v6 =>
  rec x1 v6 (wI (x3 + 1)) r3.2)))
  else some (x2, m))
def C_hours_L22  : Nat → Int → Int → Int → zM → Option (Int × zM)
  | 0, _, _, _, _ => none
  | n + 1, x1, x2, x3, m => C_hours_B22 (C_hours_L22 n) x1 x2 x3 m
def C_hours (x1 : Int) (m : zM) : Option (Int × zM) :=
  (C_canGoBy x1 m).bind (fun r1 =>
  (if r1 = 0 then
  (C_refuse 2 m).bind (fun r5 =>
  some (r5.1, r5.2))
  else (C_remember m).bind (fun r8 =>
  C_hours_L22 1000000 x1 0 0 r8)))
def C_drawOfHundred (m : zM) : Option (Int × zM) :=
  pf 0 16 (anI (wI ((wI (1103515245 * (m 0 16))) + 12345)) 2147483647) m (fun m2 =>
  some (rmI (dvI (m2 0 16) 64) 100, m2))
def C_chance_B22 (rec : Int → Int → Int → zM → Option (Int × zM)) (x1 : Int) (x2 : Int) (x3 : Int) (m : zM) : Option (Int × zM) :=
  (if x3 < x1 then
  (C_drawOfHundred m).bind (fun r2 =>
  mro kdC 10 (r2.2 0 12) (fun zz5 =>
  (if r2.1 < r2.2 zz5 18 then
  (St_passHour 8 r2.2).bind (fun r8 =>
  rec x1 (wI (x2 + 1)) (wI (x3 + 1)) r8)
  else mro kdC 10 (r2.2 0 12) (fun zz11 =>
  (Ke_playHour zz11 8 r2.2).bind (fun r12 =>
  rec x1 x2 (wI (x3 + 1)) r12.2)))))
  else some (x2, m))
def C_chance_L22  : Nat → Int → Int → Int → zM → Option (Int × zM)
  | 0, _, _, _, _ => none
  | n + 1, x1, x2, x3, m => C_chance_B22 (C_chance_L22 n) x1 x2 x3 m
def C_chance (x1 : Int) (m : zM) : Option (Int × zM) :=
  (C_canGoBy x1 m).bind (fun r1 =>
  (if r1 = 0 then
  (C_refuse 2 m).bind (fun r5 =>
  some (r5.1, r5.2))
  else (C_remember m).bind (fun r8 =>
  C_chance_L22 1000000 x1 0 0 r8)))
def C_isTrait (x0 : Int) : Option (Int) :=
  (if x0 < 0 then
  some 0
  else (if 9 < x0 then
  some 0
  else some 1))
def C_isNewTriple (a0 : Nat) (n0 : Nat) (x1 : Int) (x2 : Int) (x3 : Int) (x4 : Int) (m : zM) : Option (Int) :=
  (C_isTrait x2).bind (fun r1 =>
  (if r1 = 0 then
  some 0
  else (C_isTrait x3).bind (fun r5 =>
  (if r5 = 0 then
  some 0
  else (C_isTrait x4).bind (fun r9 =>
  (if r9 = 0 then
  some 0
  else rd a0 n0 x1 m (fun y13 =>
  (if y13 = x2 then
  rd a0 n0 (wI (x1 + 1)) m (fun y15 =>
  (if y15 = x3 then
  rd a0 n0 (wI (x1 + 2)) m (fun y17 =>
  (if y17 = x4 then
  some 0
  else some 1))
  else some 1))
  else some 1))))))))
def C_change (x1 : Int) (x2 : Int) (x3 : Int) (x4 : Int) (m : zM) : Option (Int × zM) :=
  mro kdC 10 (m 0 12) (fun zz1 =>
  (Zo_isGuest zz1 x1 m).bind (fun r2 =>
  (if r2 = 0 then
  (C_refuse 3 m).bind (fun r6 =>
  some (0, r6.2))
  else (C_isNewTriple 9 24 (wI (x1 * 3)) x2 x3 x4 m).bind (fun r9 =>
  (if r9 = 0 then
  (C_refuse 3 m).bind (fun r13 =>
  some (0, r13.2))
  else (C_remember m).bind (fun r16 =>
  (C_setTriple 9 24 (wI (x1 * 3)) x2 x3 x4 r16).bind (fun r19 =>
  some (1, r19))))))))
def C_train (x1 : Int) (x2 : Int) (x3 : Int) (x4 : Int) (m : zM) : Option (Int × zM) :=
  mro kdC 10 (m 0 12) (fun zz1 =>
  (Zo_isBeast zz1 x1 m).bind (fun r2 =>
  (if r2 = 0 then
  (C_refuse 3 m).bind (fun r6 =>
  some (0, r6.2))
  else (C_isNewTriple 12 18 (wI (x1 * 3)) x2 x3 x4 m).bind (fun r9 =>
  (if r9 = 0 then
  (C_refuse 3 m).bind (fun r13 =>
  some (0, r13.2))
  else (C_remember m).bind (fun r16 =>
  (C_setTriple 12 18 (wI (x1 * 3)) x2 x3 x4 r16).bind (fun r19 =>
  some (1, r19))))))))
def St_swapPlaces (a0 : Nat) (n0 : Nat) (x1 : Int) (x2 : Int) (m : zM) : Option (zM) :=
  rd a0 n0 x1 m (fun y1 =>
  rd a0 n0 x2 m (fun y2 =>
  wr a0 n0 x1 y2 m (fun m3 =>
  wr a0 n0 x2 y1 m3 (fun m4 =>
  some m4))))
def St_swapKnowledge_B2 (rec : Nat → Int → Int → Int → zM → Option (zM)) (o0 : Nat) (x1 : Int) (x2 : Int) (x3 : Int) (m : zM) : Option (zM) :=
  (if x3 < 8 then
  (St_swapPlaces (o0 + 5) 48 (wI ((wI (x1 * 8)) + x3)) (wI ((wI (x2 * 8)) + x3)) m).bind (fun r2 =>
  (St_swapPlaces (o0 + 6) 48 (wI ((wI (x1 * 8)) + x3)) (wI ((wI (x2 * 8)) + x3)) r2).bind (fun r5 =>
  rec o0 x1 x2 (wI (x3 + 1)) r5))
  else some m)
def St_swapKnowledge_L2  : Nat → Nat → Int → Int → Int → zM → Option (zM)
  | 0, _, _, _, _, _ => none
  | n + 1, o0, x1, x2, x3, m => St_swapKnowledge_B2 (St_swapKnowledge_L2 n) o0 x1 x2 x3 m
def St_swapKnowledge (o0 : Nat) (x1 : Int) (x2 : Int) (m : zM) : Option (zM) :=
  St_swapKnowledge_L2 1000000 o0 x1 x2 0 m
def C_swap (x1 : Int) (x2 : Int) (m : zM) : Option (Int × zM) :=
  mro kdC 10 (m 0 12) (fun zz1 =>
  (Zo_isBeast zz1 x1 m).bind (fun r2 =>
  (if r2 = 0 then
  (C_refuse 3 m).bind (fun r6 =>
  some (0, r6.2))
  else mro kdC 10 (m 0 12) (fun zz9 =>
  (Zo_isBeast zz9 x2 m).bind (fun r10 =>
  (if r10 = 0 then
  (C_refuse 3 m).bind (fun r14 =>
  some (0, r14.2))
  else (if x1 = x2 then
  (C_refuse 3 m).bind (fun r18 =>
  some (0, r18.2))
  else (C_remember m).bind (fun r21 =>
  (St_swapKnowledge 8 x1 x2 r21).bind (fun r24 =>
  some (1, r24))))))))))
def C_undo (m : zM) : Option (Int × zM) :=
  (if 0 < m 0 15 then
  pf 0 15 (wI ((m 0 15) - 1)) m (fun m4 =>
  gi 20 (rmI (wI ((m4 0 14) + (m4 0 15))) 20) ((St_copyFrom 8 (89 + 8 * Int.toNat (rmI (wI ((m4 0 14) + (m4 0 15))) 20)) m4).bind (fun r9 =>
  some (1, r9))))
  else (C_refuse 4 m).bind (fun r12 =>
  some (0, r12.2)))
def C_seed (x1 : Int) (m : zM) : Option (Int × zM) :=
  (if x1 < 0 then
  (C_refuse 5 m).bind (fun r2 =>
  some (0, r2.2))
  else pf 0 16 x1 m (fun m5 =>
  some (1, m5)))
def St_rowPart (o0 : Nat) (x1 : Int) (x2 : Int) (m : zM) : Option (Int) :=
  rd (o0 + 7) 60 (rmI (wI ((m o0 10) + x1)) 60) m (fun y2 =>
  lt (dvI (dvI y2 4) 48) (fun v3 =>
  (if x2 = 0 then some (dvI v3 24)
  else if x2 = 1 then some (rmI v3 24)
  else if x2 = 2 then some (rmI (dvI (dvI y2 4) 8) 6)
  else if x2 = 3 then some (rmI (dvI y2 4) 8)
  else if x2 = 4 then some (rmI y2 4)
  else some ((-1)))))
def C_kept (x1 : Int) (x2 : Int) (m : zM) : Option (Int) :=
  (if x1 < 0 then
  some ((-1))
  else (if x1 < m 8 11 then
  (St_rowPart 8 x1 x2 m).bind (fun r4 =>
  some r4)
  else some ((-1))))
def Im_put (x1 : Int) (m : zM) : Option (zM) :=
  (if m 52 1 < 160 then
  wr 53 160 (m 52 1) x1 m (fun m4 =>
  pf 52 1 (wI ((m4 52 1) + 1)) m4 (fun m6 =>
  some m6))
  else some m)
def Im_putPair (x1 : Int) (m : zM) : Option (zM) :=
  (Im_put (srI x1 8) m).bind (fun r1 =>
  (Im_put (anI x1 255) r1).bind (fun r4 =>
  some r4))
def Im_putTriple_B2 (rec : Nat → Nat → Int → Int → zM → Option (zM)) (a1 : Nat) (n1 : Nat) (x2 : Int) (x3 : Int) (m : zM) : Option (zM) :=
  (if x3 < 3 then
  rd a1 n1 (wI (x2 + x3)) m (fun y2 =>
  (Im_put y2 m).bind (fun r3 =>
  rec a1 n1 x2 (wI (x3 + 1)) r3))
  else some m)
def Im_putTriple_L2  : Nat → Nat → Nat → Int → Int → zM → Option (zM)
  | 0, _, _, _, _, _ => none
  | n + 1, a1, n1, x2, x3, m => Im_putTriple_B2 (Im_putTriple_L2 n) a1 n1 x2 x3 m
def Im_putTriple (a1 : Nat) (n1 : Nat) (x2 : Int) (m : zM) : Option (zM) :=
  Im_putTriple_L2 1000000 a1 n1 x2 0 m
def Im_check_B6 (rec : Nat → Nat → Int → Int → Int → Option (Int)) (a0 : Nat) (n0 : Nat) (x1 : Int) (x2 : Int) (x3 : Int) (m : zM) : Option (Int) :=
  (if x3 < x1 then
  (if x3 < ((n0 : Nat) : Int) then
  rd a0 n0 x3 m (fun y3 =>
  lt (rmI (wI ((wI (5 * x2)) + y3)) 251) (fun v4 =>
  rec a0 n0 x1 v4 (wI (x3 + 1))))
  else some x2)
  else some x2)
def Im_check_L6 (m : zM) : Nat → Nat → Nat → Int → Int → Int → Option (Int)
  | 0, _, _, _, _, _ => none
  | n + 1, a0, n0, x1, x2, x3 => Im_check_B6 (Im_check_L6 m n) a0 n0 x1 x2 x3 m
def Im_check (a0 : Nat) (n0 : Nat) (x1 : Int) (m : zM) : Option (Int) :=
  Im_check_L6 m 1000000 a0 n0 x1 151 0
def Im_write_B31 (k78 : Nat → Nat → zM → Option (zM)) (rec : Nat → Nat → Int → zM → Option (zM)) (o1 : Nat) (o2 : Nat) (x3 : Int) (m : zM) : Option (zM) :=
  (if x3 < m o1 1 then
  (Im_putTriple (o2 + 1) 24 (wI (x3 * 3)) m).bind (fun r3 =>
  rd (o2 + 2) 8 x3 r3 (fun y6 =>
  (Im_put (wI (y6 + 1)) r3).bind (fun r7 =>
  rd (o2 + 3) 8 x3 r7 (fun y10 =>
  (Im_put y10 r7).bind (fun r11 =>
  rec o1 o2 (wI (x3 + 1)) r11)))))
  else k78 o1 o2 m)
def Im_write_L31 (k78 : Nat → Nat → zM → Option (zM)) : Nat → Nat → Nat → Int → zM → Option (zM)
  | 0, _, _, _, _ => none
  | n + 1, o1, o2, x3, m => Im_write_B31 k78 (Im_write_L31 k78 n) o1 o2 x3 m
def Im_write_B102 (k149 : Nat → Nat → Int → zM → Option (zM)) (rec : Nat → Nat → Int → Int → zM → Option (zM)) (o1 : Nat) (o2 : Nat) (x3 : Int) (x4 : Int) (m : zM) : Option (zM) :=
  (if x4 < m o1 1 then
  rd (o2 + 5) 48 (wI ((wI (x3 * 8)) + x4)) m (fun y3 =>
  (Im_put y3 m).bind (fun r4 =>
  rd (o2 + 6) 48 (wI ((wI (x3 * 8)) + x4)) r4 (fun y7 =>
  (Im_put y7 r4).bind (fun r8 =>
  rec o1 o2 x3 (wI (x4 + 1)) r8))))
  else k149 o1 o2 x3 m)
def Im_write_L102 (k149 : Nat → Nat → Int → zM → Option (zM)) : Nat → Nat → Nat → Int → Int → zM → Option (zM)
  | 0, _, _, _, _, _ => none
  | n + 1, o1, o2, x3, x4, m => Im_write_B102 k149 (Im_write_L102 k149 n) o1 o2 x3 x4 m
def Im_write_B80 (rec : Nat → Nat → Int → zM → Option (zM)) (o1 : Nat) (o2 : Nat) (x3 : Int) (m : zM) : Option (zM) :=
  (if x3 < m o1 0 then
  (Im_putTriple (o2 + 4) 18 (wI (x3 * 3)) m).bind (fun r3 =>
  Im_write_L102 (fun o1_6 o2_6 x3_6 m7 => rec o1_6 o2_6 (wI (x3_6 + 1)) m7) 1000000 o1 o2 x3 0 r3)
  else (Im_check 53 160 (m 52 1) m).bind (fun r9 =>
  (Im_put r9 m).bind (fun r12 =>
  some r12)))
def Im_write_L80  : Nat → Nat → Nat → Int → zM → Option (zM)
  | 0, _, _, _, _ => none
  | n + 1, o1, o2, x3, m => Im_write_B80 (Im_write_L80 n) o1 o2 x3 m
def Im_write (o1 : Nat) (o2 : Nat) (m : zM) : Option (zM) :=
  pf 52 1 0 m (fun m1 =>
  (Im_putPair (m1 o2 0) m1).bind (fun r3 =>
  (Im_put (r3 o2 1) r3).bind (fun r7 =>
  (Im_putPair (r7 o2 2) r7).bind (fun r11 =>
  Im_write_L31 (fun o1_14 o2_14 m15 => Im_write_L80 1000000 o1_14 o2_14 0 m15) 1000000 o1 o2 0 r11))))
def C_image (m : zM) : Option (Int × zM) :=
  mro kdC 10 (m 0 12) (fun zz1 =>
  (Im_write zz1 8 m).bind (fun r2 =>
  some (r2 52 1, r2)))
def C_octet (x1 : Int) (m : zM) : Option (Int) :=
  (if x1 < 0 then
  some ((-1))
  else (if x1 < m 52 1 then
  rd 53 160 x1 m (fun y4 =>
  some y4)
  else some ((-1))))
def Im_sizeFor (o0 : Nat) (m : zM) : Option (Int) :=
  some (wI ((wI (6 + (wI ((m o0 1) * 5)))) + (wI ((m o0 0) * (wI (3 + (wI (2 * (m o0 1)))))))))
def Im_takeByte (x1 : Int) (m : zM) : Option (Int × zM) :=
  mra kdC (m 52 2) (fun zz2 nn3 =>
  (if m 52 3 < ((nn3 : Nat) : Int) then
  mra kdC (m 52 2) (fun zz5 nn6 =>
  rd zz5 nn6 (m 52 3) m (fun y8 =>
  (if x1 < y8 then
  pf 52 4 0 m (fun m10 =>
  some (0, m10))
  else mra kdC (m 52 2) (fun zz11 nn12 =>
  rd zz11 nn12 (m 52 3) m (fun y14 =>
  pf 52 3 (wI ((m 52 3) + 1)) m (fun m16 =>
  some (y14, m16)))))))
  else pf 52 4 0 m (fun m17 =>
  some (0, m17))))
def Im_takePair (x1 : Int) (m : zM) : Option (Int × zM) :=
  (Im_takeByte 255 m).bind (fun r1 =>
  (Im_takeByte 255 r1.2).bind (fun r4 =>
  lt (wI ((wI (r1.1 * 256)) + r4.1)) (fun v7 =>
  (if x1 < v7 then
  pf 52 4 0 r4.2 (fun m9 =>
  some (0, m9))
  else some (v7, r4.2)))))
def Im_takeTriple_B2 (rec : Nat → Nat → Int → Int → zM → Option (zM)) (a1 : Nat) (n1 : Nat) (x2 : Int) (x3 : Int) (m : zM) : Option (zM) :=
  (if x3 < 3 then
  (Im_takeByte 9 m).bind (fun r2 =>
  wr a1 n1 (wI (x2 + x3)) r2.1 r2.2 (fun m5 =>
  rec a1 n1 x2 (wI (x3 + 1)) m5))
  else some m)
def Im_takeTriple_L2  : Nat → Nat → Nat → Int → Int → zM → Option (zM)
  | 0, _, _, _, _, _ => none
  | n + 1, a1, n1, x2, x3, m => Im_takeTriple_B2 (Im_takeTriple_L2 n) a1 n1 x2 x3 m
def Im_takeTriple (a1 : Nat) (n1 : Nat) (x2 : Int) (m : zM) : Option (zM) :=
  Im_takeTriple_L2 1000000 a1 n1 x2 0 m
def Im_read_B103 (k166 : Nat → Nat → zM → Option (Int × zM)) (rec : Nat → Nat → Int → zM → Option (Int × zM)) (o2 : Nat) (o3 : Nat) (x5 : Int) (m : zM) : Option (Int × zM) :=
  (if x5 < m o2 1 then
  (Im_takeTriple (o3 + 1) 24 (wI (x5 * 3)) m).bind (fun r3 =>
  (Im_takeByte (r3 o2 0) r3).bind (fun r7 =>
  wr (o3 + 2) 8 x5 (wI (r7.1 - 1)) r7.2 (fun m10 =>
  (Im_takeByte (wI ((slI 1 (m10 o2 0)) - 1)) m10).bind (fun r12 =>
  wr (o3 + 3) 8 x5 r12.1 r12.2 (fun m15 =>
  rec o2 o3 (wI (x5 + 1)) m15)))))
  else k166 o2 o3 m)
def Im_read_L103 (k166 : Nat → Nat → zM → Option (Int × zM)) : Nat → Nat → Nat → Int → zM → Option (Int × zM)
  | 0, _, _, _, _ => none
  | n + 1, o2, o3, x5, m => Im_read_B103 k166 (Im_read_L103 k166 n) o2 o3 x5 m
def Im_read_B193 (k250 : Nat → Nat → Int → zM → Option (Int × zM)) (rec : Nat → Nat → Int → Int → zM → Option (Int × zM)) (o2 : Nat) (o3 : Nat) (x5 : Int) (x6 : Int) (m : zM) : Option (Int × zM) :=
  (if x6 < m o2 1 then
  (Im_takeByte 99 m).bind (fun r3 =>
  wr (o3 + 5) 48 (wI ((wI (x5 * 8)) + x6)) r3.1 r3.2 (fun m6 =>
  (Im_takeByte r3.1 m6).bind (fun r7 =>
  wr (o3 + 6) 48 (wI ((wI (x5 * 8)) + x6)) r7.1 r7.2 (fun m10 =>
  rec o2 o3 x5 (wI (x6 + 1)) m10))))
  else k250 o2 o3 x5 m)
def Im_read_L193 (k250 : Nat → Nat → Int → zM → Option (Int × zM)) : Nat → Nat → Nat → Int → Int → zM → Option (Int × zM)
  | 0, _, _, _, _, _ => none
  | n + 1, o2, o3, x5, x6, m => Im_read_B193 k250 (Im_read_L193 k250 n) o2 o3 x5 x6 m
def Im_read_B169 (rec : Nat → Nat → Int → zM → Option (Int × zM)) (o2 : Nat) (o3 : Nat) (x5 : Int) (m : zM) : Option (Int × zM) :=
  (if x5 < m o2 0 then
  (Im_takeTriple (o3 + 4) 18 (wI (x5 * 3)) m).bind (fun r3 =>
  Im_read_L193 (fun o2_6 o3_6 x5_6 m7 => rec o2_6 o3_6 (wI (x5_6 + 1)) m7) 1000000 o2 o3 x5 0 r3)
  else some (m 52 4, m))
def Im_read_L169  : Nat → Nat → Nat → Int → zM → Option (Int × zM)
  | 0, _, _, _, _ => none
  | n + 1, o2, o3, x5, m => Im_read_B169 (Im_read_L169 n) o2 o3 x5 m
def Im_read (o2 : Nat) (o3 : Nat) (m : zM) : Option (Int × zM) :=
  (Im_sizeFor o2 m).bind (fun r1 =>
  (if m 2 1 = r1 then
  (if r1 < 1 then
  some (0, m)
  else (Im_check 3 1600 (wI (r1 - 1)) m).bind (fun r7 =>
  rd 3 1600 (wI (r1 - 1)) m (fun y10 =>
  (if r7 = y10 then
  pf 52 2 ((3 : Int) + 1) m (fun m12 =>
  pf 52 3 0 m12 (fun m13 =>
  pf 52 4 1 m13 (fun m14 =>
  (St_forgetRows o3 m14).bind (fun r15 =>
  (Im_takePair 999 r15).bind (fun r18 =>
  pf o3 0 r18.1 r18.2 (fun m21 =>
  (Im_takeByte 23 m21).bind (fun r22 =>
  pf o3 1 r22.1 r22.2 (fun m25 =>
  (Im_takePair 9999 m25).bind (fun r26 =>
  pf o3 2 r26.1 r26.2 (fun m29 =>
  Im_read_L103 (fun o2_30 o3_30 m31 => Im_read_L169 1000000 o2_30 o3_30 0 m31) 1000000 o2 o3 0 m29))))))))))
  else some (0, m)))))
  else some (0, m)))
def C_on (m : zM) : Option (Int × zM) :=
  mro kdC 10 (m 0 12) (fun zz1 =>
  (Im_read zz1 16 m).bind (fun r2 =>
  pf 2 1 0 r2.2 (fun m5 =>
  (if r2.1 = 0 then
  (C_refuse 5 m5).bind (fun r7 =>
  some (0, r7.2))
  else (St_copyFrom 8 16 m5).bind (fun r10 =>
  pf 0 15 0 r10 (fun m13 =>
  some (1, m13)))))))
def C_status (x1 : Int) (m : zM) : Option (Int) :=
  (if x1 < 0 then
  some ((-1))
  else (if x1 < 6 then
  rd 54 6 x1 m (fun y3 =>
  some y3)
  else some ((-1))))
def M_is (x0 : Int) (x1 : Int) (x2 : Int) : Option (Int) :=
  (if x0 < x1 then
  some 0
  else (if x2 < x0 then
  some 0
  else some 1))
def M_put_B3 (rec : Int → Int → zM → Option (zM)) (x1 : Int) (x2 : Int) (m : zM) : Option (zM) :=
  (if x2 < 0 then
  some m
  else wr 1 1800 (m 0 1) (anI (srI x1 x2) 255) m (fun m3 =>
  pf 0 1 (wI ((m3 0 1) + 1)) m3 (fun m5 =>
  rec x1 (wI (x2 + (-8))) m5)))
def M_put_L3  : Nat → Int → Int → zM → Option (zM)
  | 0, _, _, _ => none
  | n + 1, x1, x2, m => M_put_B3 (M_put_L3 n) x1 x2 m
def M_put (x1 : Int) (m : zM) : Option (zM) :=
  M_put_L3 1000000 x1 24 m
def M_refuses (x1 : Int) (m : zM) : Option (Int × zM) :=
  rd 26 6 x1 m (fun y1 =>
  wr 26 6 x1 (wI (y1 + 1)) m (fun m2 =>
  some ((-1), m2)))
def M_feed (x1 : Int) (x2 : Int) (x3 : Int) (x4 : Int) (x5 : Int) (m : zM) : Option (Int × zM) :=
  (if 1600 < wI ((m 0 1) + 20) then
  (M_refuses 0 m).bind (fun r3 =>
  some (r3.1, r3.2))
  else (M_put x1 m).bind (fun r6 =>
  (M_put x2 r6).bind (fun r9 =>
  (M_put x3 r9).bind (fun r12 =>
  (M_put x4 r12).bind (fun r15 =>
  (M_put x5 r15).bind (fun r18 =>
  some (r18 0 1, r18)))))))
def M_end_b12 (m : zM) : Option (Int × zM) :=
  (M_refuses 0 m).bind (fun r1 =>
  (if r1.1 < 0 then
  some (0, r1.2)
  else some (1, r1.2)))
def M_end (x1 : Int) (m : zM) : Option (Int × zM) :=
  (if x1 < 0 then
  M_end_b12 m
  else (if m 0 1 < x1 then
  M_end_b12 m
  else pf 0 1 x1 m (fun m4 =>
  some (1, m4))))
def M_blame (x1 : Int) (x2 : Int) (m : zM) : Option (zM) :=
  (if 0 < m 0 8 then
  some m
  else pf 0 8 x1 m (fun m3 =>
  pf 0 9 x2 m3 (fun m4 =>
  some m4)))
def M_isLetter (x0 : Int) : Option (Int) :=
  (if x0 < 97 then
  some 0
  else (if 122 < x0 then
  some 0
  else some 1))
def M_isDigit (x0 : Int) : Option (Int) :=
  (if x0 < 48 then
  some 0
  else (if 57 < x0 then
  some 0
  else some 1))
def M_lex (m : zM) : Option (zM) :=
  (if m 0 12 = (-1) then
  some m
  else (M_blame 1 (m 0 12) m).bind (fun r4 =>
  some r4))
def M_ahead_B5 (k41 : Int → zM → Option (zM)) (rec : Int → zM → Option (zM)) (x1 : Int) (m : zM) : Option (zM) :=
  (if x1 < m 0 2 then
  rd 1 1800 x1 m (fun y3 =>
  (if y3 = 32 then
  rec (wI (x1 + 1)) m
  else rd 1 1800 x1 m (fun y5 =>
  (if y5 = 10 then
  rec (wI (x1 + 1)) m
  else k41 x1 m))))
  else k41 x1 m)
def M_ahead_L5 (k41 : Int → zM → Option (zM)) : Nat → Int → zM → Option (zM)
  | 0, _, _ => none
  | n + 1, x1, m => M_ahead_B5 k41 (M_ahead_L5 k41 n) x1 m
def M_ahead_b293 (rec : Int → Int → Int → Int → Int → zM → Option (zM)) (x1 : Int) (x2 : Int) (x3 : Int) (x4 : Int) (x5 : Int) (m : zM) : Option (zM) :=
  (if x5 < x4 then
  (if x3 = 0 then
  rec (wI (x1 + 1)) x2 x3 x4 (wI (x5 + 1)) m
  else rd 1 1800 x1 m (fun y4 =>
  pf 0 6 (wI ((wI ((wI (10 * (m 0 6))) + y4)) - 48)) m (fun m5 =>
  rec (wI (x1 + 1)) x2 x3 x4 (wI (x5 + 1)) m5)))
  else rec (wI (x1 + 1)) x2 x3 x4 (wI (x5 + 1)) m)
def M_ahead_b263 (rec : Int → Int → Int → Int → Int → zM → Option (zM)) (x1 : Int) (x2 : Int) (x3 : Int) (x4 : Int) (x5 : Int) (m : zM) : Option (zM) :=
  (if x5 < x4 then
  (if x2 = 0 then
  M_ahead_b293 rec x1 x2 x3 x4 x5 m
  else rd 1 1800 x1 m (fun y4 =>
  pf 0 7 (orL (slL (m 0 7) 8) y4) m (fun m5 =>
  M_ahead_b293 rec x1 x2 x3 x4 x5 m5)))
  else M_ahead_b293 rec x1 x2 x3 x4 x5 m)
def M_ahead_b243 (rec : Int → Int → Int → Int → Int → zM → Option (zM)) (x1 : Int) (x2 : Int) (x3 : Int) (x4 : Int) (x5 : Int) (m : zM) : Option (zM) :=
  (if x5 = x4 then
  (if m 0 12 = (-1) then
  pf 0 12 x1 m (fun m4 =>
  M_ahead_b263 rec x1 x2 x3 x4 x5 m4)
  else M_ahead_b263 rec x1 x2 x3 x4 x5 m)
  else M_ahead_b263 rec x1 x2 x3 x4 x5 m)
def M_ahead_B204 (rec : Int → Int → Int → Int → Int → zM → Option (zM)) (x1 : Int) (x2 : Int) (x3 : Int) (x4 : Int) (x5 : Int) (m : zM) : Option (zM) :=
  (if x1 < m 0 2 then
  (if x2 = 0 then
  rd 1 1800 x1 m (fun y4 =>
  (M_isDigit y4).bind (fun r5 =>
  (if r5 = 0 then
  pf 0 5 x1 m (fun m9 =>
  some m9)
  else M_ahead_b243 rec x1 x2 x3 x4 x5 m)))
  else rd 1 1800 x1 m (fun y10 =>
  (M_isLetter y10).bind (fun r11 =>
  (if r11 = 0 then
  pf 0 5 x1 m (fun m15 =>
  some m15)
  else M_ahead_b243 rec x1 x2 x3 x4 x5 m))))
  else pf 0 5 x1 m (fun m16 =>
  some m16))
def M_ahead_L204  : Nat → Int → Int → Int → Int → Int → zM → Option (zM)
  | 0, _, _, _, _, _, _ => none
  | n + 1, x1, x2, x3, x4, x5, m => M_ahead_B204 (M_ahead_L204 n) x1 x2 x3 x4 x5 m
def M_ahead_b199 (x1 : Int) (x2 : Int) (x3 : Int) (s0 : Int) (m : zM) : Option (zM) :=
  M_ahead_L204 1000000 x1 x2 x3 s0 0 m
def M_ahead_b186 (x1 : Int) (x2 : Int) (x3 : Int) (s1 : Int) (m : zM) : Option (zM) :=
  pf 0 3 s1 m (fun m1 =>
  (if x2 = 0 then
  M_ahead_b199 x1 x2 x3 4 m1
  else M_ahead_b199 x1 x2 x3 6 m1))
def M_ahead_b176 (x1 : Int) (x2 : Int) (x3 : Int) (m : zM) : Option (zM) :=
  (if x2 = 0 then
  M_ahead_b186 x1 x2 x3 2 m
  else M_ahead_b186 x1 x2 x3 1 m)
def M_ahead_b135 (x1 : Int) (x2 : Int) (x3 : Int) (m : zM) : Option (zM) :=
  pf 0 6 0 m (fun m1 =>
  pf 0 7 0 m1 (fun m2 =>
  pf 0 3 3 m2 (fun m3 =>
  pf 0 5 (wI (x1 + 1)) m3 (fun m4 =>
  (if x2 = 0 then
  (if x3 = 0 then
  rd 1 1800 x1 m4 (fun y7 =>
  pf 0 6 y7 m4 (fun m8 =>
  some m8))
  else M_ahead_b176 x1 x2 x3 m4)
  else M_ahead_b176 x1 x2 x3 m4)))))
def M_ahead_b130 (x1 : Int) (x2 : Int) (x3 : Int) (m : zM) : Option (zM) :=
  pf 0 12 x1 m (fun m1 =>
  M_ahead_b135 x1 x2 x3 m1)
def M_ahead_b98 (x1 : Int) (x2 : Int) (x3 : Int) (m : zM) : Option (zM) :=
  (if 0 < x1 then
  rd 1 1800 (wI (x1 - 1)) m (fun y2 =>
  (M_isLetter y2).bind (fun r3 =>
  (if r3 = 0 then
  rd 1 1800 (wI (x1 - 1)) m (fun y7 =>
  (M_isDigit y7).bind (fun r8 =>
  (if r8 = 0 then
  M_ahead_b135 x1 x2 x3 m
  else M_ahead_b130 x1 x2 x3 m)))
  else M_ahead_b130 x1 x2 x3 m)))
  else M_ahead_b135 x1 x2 x3 m)
def M_ahead_b41 (x1 : Int) (m : zM) : Option (zM) :=
  pf 0 4 x1 m (fun m1 =>
  pf 0 5 x1 m1 (fun m2 =>
  pf 0 3 0 m2 (fun m3 =>
  pf 0 12 ((-1)) m3 (fun m4 =>
  (if x1 < m4 0 2 then
  rd 1 1800 x1 m4 (fun y7 =>
  (M_isLetter y7).bind (fun r8 =>
  rd 1 1800 x1 m4 (fun y11 =>
  (M_isDigit y11).bind (fun r12 =>
  (if r8 = 0 then
  (if r12 = 0 then
  M_ahead_b135 x1 r8 r12 m4
  else M_ahead_b98 x1 r8 r12 m4)
  else M_ahead_b98 x1 r8 r12 m4)))))
  else some m4)))))
def M_ahead (m : zM) : Option (zM) :=
  M_ahead_L5 (fun x1_2 m3 => M_ahead_b41 x1_2 m3) 1000000 (m 0 5) m
def M_isSign (x1 : Int) (m : zM) : Option (Int) :=
  (if m 0 3 = 3 then
  (if m 0 6 = x1 then
  some 1
  else some 0)
  else some 0)
def M_isWord (x1 : Int) (m : zM) : Option (Int) :=
  (if m 0 3 = 1 then
  (if m 0 7 = x1 then
  some 1
  else some 0)
  else some 0)
def M_must_b21 (m : zM) : Option (zM) :=
  (if m 0 8 = 0 then
  (M_ahead m).bind (fun r3 =>
  some r3)
  else some m)
def M_must (x1 : Int) (m : zM) : Option (zM) :=
  (M_lex m).bind (fun r1 =>
  (M_isSign x1 r1).bind (fun r4 =>
  (if r4 = 0 then
  (M_blame 1 (r1 0 4) r1).bind (fun r9 =>
  M_must_b21 r9)
  else M_must_b21 r1)))
def M_isOwn (x1 : Int) : Option (Int) :=
  (if x1 = 422607680372 then
  some 1
  else (if x1 = 512735536499 then
  some 1
  else (if x1 = 29807 then
  some 1
  else (if x1 = 24948 then
  some 1
  else (if x1 = 499851162725 then
  some 1
  else (if x1 = 444351214452 then
  some 1
  else (if x1 = 427071202675 then
  some 1
  else (if x1 = 439787549299 then
  some 1
  else (if x1 = 465625113971 then
  some 1
  else (if x1 = 7168377 then
  some 1
  else (if x1 = 129138533167731 then
  some 1
  else (if x1 = 422776563059 then
  some 1
  else (if x1 = 461262647411 then
  some 1
  else (if x1 = 6710629 then
  some 1
  else (if x1 = 1918986606 then
  some 1
  else (if x1 = 495891084403 then
  some 1
  else (if x1 = 7561591 then
  some 1
  else (if x1 = 1752135026 then
  some 1
  else (if x1 = 465726040947 then
  some 1
  else (if x1 = 495756602476 then
  some 1
  else (if x1 = 1952541803 then
  some 1
  else (if x1 = 119200029437543 then
  some 1
  else (if x1 = 1718773093 then
  some 1
  else (if x1 = 26982 then
  some 1
  else (if x1 = 28530 then
  some 1
  else (if x1 = 6385252 then
  some 1
  else (if x1 = 7237492 then
  some 1
  else (if x1 = 6384748 then
  some 1
  else (if x1 = 7170414 then
  some 1
  else (if x1 = 7168376 then
  some 1
  else some 0))))))))))))))))))))))))))))))
def M_isDefault (x1 : Int) (m : zM) : Option (zM) :=
  wr 12 10 (wI ((wI (5 * x1)) + 0)) 6 m (fun m1 =>
  wr 12 10 (wI ((wI (5 * x1)) + 1)) 1 m1 (fun m2 =>
  wr 12 10 (wI ((wI (5 * x1)) + 2)) 3 m2 (fun m3 =>
  wr 12 10 (wI ((wI (5 * x1)) + 3)) 5 m3 (fun m4 =>
  wr 12 10 (wI ((wI (5 * x1)) + 4)) 0 m4 (fun m5 =>
  some m5)))))
def M_toldOf (x1 : Int) (m : zM) : Option (Int) :=
  rd 12 10 (wI ((wI (5 * (m 0 13))) + x1)) m (fun y2 =>
  some y2)
def M_manyOf (x1 : Int) (x2 : Int) (m : zM) : Option (Int) :=
  (if x2 = 0 then
  rd 2 2 x1 m (fun y2 =>
  some y2)
  else rd 7 2 x1 m (fun y3 =>
  some y3))
def M_nameOf (x1 : Int) (x2 : Int) (x3 : Int) (m : zM) : Option (Int) :=
  (if x2 = 0 then
  rd 17 12 (wI ((wI (6 * x1)) + x3)) m (fun y2 =>
  some y2)
  else rd 18 16 (wI ((wI (8 * x1)) + x3)) m (fun y3 =>
  some y3))
def M_named_B3 (rec : Int → Int → Int → Option (Int)) (x1 : Int) (x2 : Int) (x4 : Int) (m : zM) : Option (Int) :=
  (M_manyOf (m 0 32) x1 m).bind (fun r2 =>
  (if x4 < r2 then
  (M_nameOf (m 0 32) x1 x4 m).bind (fun r7 =>
  (if r7 = x2 then
  some x4
  else rec x1 x2 (wI (x4 + 1))))
  else some ((-1))))
def M_named_L3 (m : zM) : Nat → Int → Int → Int → Option (Int)
  | 0, _, _, _ => none
  | n + 1, x1, x2, x4 => M_named_B3 (M_named_L3 m n) x1 x2 x4 m
def M_named (x1 : Int) (x2 : Int) (m : zM) : Option (Int) :=
  M_named_L3 m 1000000 x1 x2 0
def M_number_b58 (m : zM) : Option (Int × zM) :=
  (if m 0 8 = 0 then
  (M_ahead m).bind (fun r4 =>
  some (m 0 6, r4))
  else some (m 0 6, m))
def M_number_b30 (x1 : Int) (x2 : Int) (m : zM) : Option (Int × zM) :=
  (if m 0 8 = 0 then
  (M_is (m 0 6) x1 x2).bind (fun r4 =>
  (if r4 = 0 then
  (M_blame 4 (m 0 4) m).bind (fun r9 =>
  M_number_b58 r9)
  else M_number_b58 m))
  else M_number_b58 m)
def M_number (x1 : Int) (x2 : Int) (m : zM) : Option (Int × zM) :=
  (M_lex m).bind (fun r1 =>
  (if 0 < r1 0 8 then
  some (0, r1)
  else (if r1 0 3 = 2 then
  M_number_b30 x1 x2 r1
  else (M_blame 1 (r1 0 4) r1).bind (fun r9 =>
  M_number_b30 x1 x2 r9))))
def M_add (x1 : Int) (x2 : Int) (m : zM) : Option (zM) :=
  wr 15 3200 (wI ((wI (1600 * (m 0 32))) + (m 0 31))) x1 m (fun m3 =>
  wr 16 3200 (wI ((wI (1600 * (m3 0 32))) + (m3 0 31))) x2 m3 (fun m6 =>
  pf 0 31 (wI ((m6 0 31) + 1)) m6 (fun m8 =>
  some m8)))
def M_rank (x0 : Int) : Option (Int) :=
  (if x0 = 42 then
  some 1
  else (if x0 = 41 then
  some 2
  else (if x0 = 43 then
  some 3
  else (if x0 = 38 then
  some 4
  else (if x0 = 39 then
  some 4
  else (if x0 = 40 then
  some 4
  else (if x0 = 31 then
  some 5
  else (if x0 = 32 then
  some 5
  else some 6))))))))
def M_joins_B0 (rec : Int → zM → Option (zM)) (x1 : Int) (m : zM) : Option (zM) :=
  rd 23 20 (wI ((m 0 39) - 1)) m (fun y3 =>
  (if y3 < m 0 42 then
  rd 24 500 (wI ((m 0 42) - 1)) m (fun y6 =>
  (M_rank y6).bind (fun r7 =>
  (if r7 < x1 then
  some m
  else pf 0 42 (wI ((m 0 42) - 1)) m (fun m12 =>
  rd 24 500 (m12 0 42) m12 (fun y14 =>
  (M_add y14 0 m12).bind (fun r15 =>
  rd 24 500 (r15 0 42) r15 (fun y19 =>
  (if y19 = 43 then
  pf 0 40 (wI ((r15 0 40) - 1)) r15 (fun m22 =>
  rec x1 m22)
  else rec x1 r15))))))))
  else some m))
def M_joins_L0  : Nat → Int → zM → Option (zM)
  | 0, _, _ => none
  | n + 1, x1, m => M_joins_B0 (M_joins_L0 n) x1 m
def M_joins (x1 : Int) (m : zM) : Option (zM) :=
  M_joins_L0 1000000 x1 m
def M_holdsBack (x1 : Int) (m : zM) : Option (zM) :=
  wr 24 500 (m 0 42) x1 m (fun m2 =>
  pf 0 42 (wI ((m2 0 42) + 1)) m2 (fun m4 =>
  some m4))
def M_pushes (x1 : Int) (m : zM) : Option (zM) :=
  wr 19 20 (m 0 39) x1 m (fun m2 =>
  wr 20 20 (m2 0 39) 0 m2 (fun m4 =>
  wr 21 20 (m4 0 39) 1 m4 (fun m6 =>
  wr 23 20 (m6 0 39) (m6 0 42) m6 (fun m9 =>
  pf 0 39 (wI ((m9 0 39) + 1)) m9 (fun m11 =>
  some m11)))))
def M_opens_b18 (x1 : Int) (m : zM) : Option (zM) :=
  (if 0 < m 0 8 then
  some m
  else pf 0 40 (wI ((m 0 40) + 1)) m (fun m4 =>
  (M_ahead m4).bind (fun r5 =>
  (M_pushes x1 r5).bind (fun r8 =>
  some r8))))
def M_opens (x1 : Int) (m : zM) : Option (zM) :=
  (if m 0 40 = 7 then
  (M_blame 5 (m 0 4) m).bind (fun r4 =>
  M_opens_b18 x1 r4)
  else M_opens_b18 x1 m)
def M_isTest (x0 : Int) : Option (Int) :=
  (if x0 = 1 then
  some 1
  else (if x0 = 5 then
  some 1
  else (if x0 = 6 then
  some 1
  else some 0)))
def M_operand_b486 (x3 : Int) (m : zM) : Option (Int × zM) :=
  (if 0 < m 0 8 then
  some (1, m)
  else (M_add x3 (m 0 6) m).bind (fun r4 =>
  (M_ahead r4).bind (fun r7 =>
  some (1, r7))))
def M_operand_b472 (x3 : Int) (m : zM) : Option (Int × zM) :=
  (if x3 = (-1) then
  (M_blame 1 (m 0 4) m).bind (fun r3 =>
  M_operand_b486 x3 r3)
  else M_operand_b486 x3 m)
def M_operand_b456 (s0 : Int) (m : zM) : Option (Int × zM) :=
  (if 6 < s0 then
  (if m 0 33 = 0 then
  M_operand_b472 ((-1)) m
  else M_operand_b472 s0 m)
  else M_operand_b472 s0 m)
def M_operand_b289 (x3 : Int) (s1 : Int) (m : zM) : Option (Int × zM) :=
  (M_opens s1 m).bind (fun r1 =>
  (if r1 0 8 = 0 then
  wr 22 20 (wI ((r1 0 39) - 1)) x3 r1 (fun m7 =>
  some (0, m7))
  else some (0, r1)))
def M_operand_b276 (x3 : Int) (m : zM) : Option (Int × zM) :=
  (if x3 = 44 then
  M_operand_b289 x3 6 m
  else M_operand_b289 x3 3 m)
def M_operand_b249 (s0 : Int) (m : zM) : Option (Int × zM) :=
  (M_ahead m).bind (fun r1 =>
  (M_lex r1).bind (fun r4 =>
  (M_isSign 40 r4).bind (fun r7 =>
  (if r7 = 0 then
  (M_blame 1 (r4 0 4) r4).bind (fun r12 =>
  M_operand_b276 s0 r12)
  else M_operand_b276 s0 r4))))
def M_operand_b217 (m : zM) : Option (Int × zM) :=
  (M_isWord 7170414 m).bind (fun r1 =>
  (if r1 = 0 then
  (M_isWord 7168376 m).bind (fun r5 =>
  (if r5 = 0 then
  M_operand_b249 44 m
  else M_operand_b249 37 m))
  else M_operand_b249 36 m))
def M_operand_b171 (m : zM) : Option (Int × zM) :=
  (M_isSign 40 m).bind (fun r1 =>
  (if r1 = 0 then
  (M_isWord 7170414 m).bind (fun r5 =>
  (if r5 = 0 then
  (M_isWord 7168376 m).bind (fun r9 =>
  (if r9 = 0 then
  (M_isWord 26982 m).bind (fun r13 =>
  (if r13 = 0 then
  (if m 0 3 = 2 then
  M_operand_b456 0 m
  else (M_isWord 495891084403 m).bind (fun r19 =>
  (if r19 = 0 then
  (M_isWord 7561591 m).bind (fun r23 =>
  (if r23 = 0 then
  (M_isWord 1752135026 m).bind (fun r27 =>
  (if r27 = 0 then
  (M_isWord 465726040947 m).bind (fun r31 =>
  (if r31 = 0 then
  (M_isWord 495756602476 m).bind (fun r35 =>
  (if r35 = 0 then
  (M_isWord 1952541803 m).bind (fun r39 =>
  (if r39 = 0 then
  (M_isWord 119200029437543 m).bind (fun r43 =>
  (if r43 = 0 then
  (M_isWord 439787549299 m).bind (fun r47 =>
  (if r47 = 0 then
  (M_isWord 1718773093 m).bind (fun r51 =>
  (if r51 = 0 then
  M_operand_b456 ((-1)) m
  else M_operand_b456 9 m))
  else M_operand_b456 8 m))
  else M_operand_b456 7 m))
  else M_operand_b456 6 m))
  else M_operand_b456 5 m))
  else M_operand_b456 4 m))
  else M_operand_b456 3 m))
  else M_operand_b456 2 m))
  else M_operand_b456 1 m)))
  else M_operand_b217 m))
  else M_operand_b217 m))
  else M_operand_b217 m))
  else (M_opens 2 m).bind (fun r55 =>
  some (0, r55))))
def M_operand_b137 (x1 : Int) (x2 : Int) (m : zM) : Option (Int × zM) :=
  (if x2 = 0 then
  M_operand_b171 m
  else (M_isWord 6384748 m).bind (fun r2 =>
  (if r2 = 0 then
  M_operand_b171 m
  else (M_add 30 0 m).bind (fun r6 =>
  wr 20 20 x1 2 r6 (fun m9 =>
  (M_ahead m9).bind (fun r10 =>
  some (1, r10)))))))
def M_operand_b110 (x1 : Int) (x2 : Int) (m : zM) : Option (Int × zM) :=
  wr 21 20 x1 0 m (fun m1 =>
  (if x2 = 0 then
  M_operand_b137 x1 x2 m1
  else (M_isSign 91 m1).bind (fun r3 =>
  (if r3 = 0 then
  M_operand_b137 x1 x2 m1
  else (M_opens 5 m1).bind (fun r7 =>
  some (0, r7))))))
def M_operand_b79 (m : zM) : Option (Int × zM) :=
  (if 0 < m 0 8 then
  some (1, m)
  else pf 0 40 (wI ((m 0 40) + 1)) m (fun m4 =>
  (M_holdsBack 43 m4).bind (fun r5 =>
  (M_ahead r5).bind (fun r8 =>
  some (0, r8)))))
def M_operand_b46 (x1 : Int) (s0 : Int) (m : zM) : Option (Int × zM) :=
  (if s0 = 0 then
  M_operand_b110 x1 s0 m
  else (M_isWord 7237492 m).bind (fun r2 =>
  (if r2 = 0 then
  M_operand_b110 x1 s0 m
  else (if m 0 40 = 7 then
  (M_blame 5 (m 0 4) m).bind (fun r9 =>
  M_operand_b79 r9)
  else M_operand_b79 m))))
def M_operand_b45 (x1 : Int) (m : zM) : Option (Int × zM) :=
  M_operand_b46 x1 0 m
def M_operand (m : zM) : Option (Int × zM) :=
  (M_lex m).bind (fun r1 =>
  (if 0 < r1 0 8 then
  some (1, r1)
  else lt (wI ((r1 0 39) - 1)) (fun v7 =>
  rd 19 20 v7 r1 (fun y8 =>
  (M_isTest y8).bind (fun r9 =>
  (if r9 = 0 then
  M_operand_b45 v7 r1
  else rd 21 20 v7 r1 (fun y13 =>
  (if y13 = 0 then
  M_operand_b45 v7 r1
  else M_operand_b46 v7 1 r1))))))))
def M_goesOn_b499 (x1 : Int) (a0 : Nat) (n0 : Nat) (s1 : Int) (s2 : Int) (m : zM) : Option (Int × zM) :=
  wr a0 n0 s1 s2 m (fun m1 =>
  wr 20 20 x1 0 m1 (fun m2 =>
  (M_ahead m2).bind (fun r3 =>
  pf 0 43 0 r3 (fun m6 =>
  some (1, m6)))))
def M_goesOn_b470 (x1 : Int) (x2 : Int) (m : zM) : Option (Int × zM) :=
  (if 0 < m 0 8 then
  some (0, m)
  else (M_joins 1 m).bind (fun r3 =>
  (if x2 = 3 then
  M_goesOn_b499 x1 19 20 x1 4 r3
  else M_goesOn_b499 x1 19 20 x1 3 r3)))
def M_goesOn_b452 (x1 : Int) (x2 : Int) (m : zM) : Option (Int × zM) :=
  (M_isSign 44 m).bind (fun r1 =>
  (if r1 = 0 then
  (M_blame 1 (m 0 4) m).bind (fun r6 =>
  M_goesOn_b470 x1 x2 r6)
  else M_goesOn_b470 x1 x2 m))
def M_goesOn_b596 (x2 : Int) (m : zM) : Option (Int × zM) :=
  (if x2 = 5 then
  wr 20 20 (wI ((m 0 39) - 1)) 2 m (fun m3 =>
  (M_ahead m3).bind (fun r4 =>
  some (1, r4)))
  else (M_ahead m).bind (fun r7 =>
  some (1, r7)))
def M_goesOn_b546 (x1 : Int) (x2 : Int) (m : zM) : Option (Int × zM) :=
  (if 0 < m 0 8 then
  some (0, m)
  else (M_joins 1 m).bind (fun r3 =>
  pf 0 39 (wI ((r3 0 39) - 1)) r3 (fun m7 =>
  pf 0 40 (wI ((m7 0 40) - 1)) m7 (fun m9 =>
  (if x2 = 4 then
  rd 22 20 x1 m9 (fun y11 =>
  (M_add y11 0 m9).bind (fun r12 =>
  M_goesOn_b596 x2 r12))
  else M_goesOn_b596 x2 m9)))))
def M_goesOn_b531 (x1 : Int) (x2 : Int) (s1 : Int) (m : zM) : Option (Int × zM) :=
  (M_isSign s1 m).bind (fun r1 =>
  (if r1 = 0 then
  (M_blame 1 (m 0 4) m).bind (fun r6 =>
  M_goesOn_b546 x1 x2 r6)
  else M_goesOn_b546 x1 x2 m))
def M_goesOn_b422 (x1 : Int) (x2 : Int) (m : zM) : Option (Int × zM) :=
  (if x2 < 2 then
  (if m 0 8 = 0 then
  (M_joins 1 m).bind (fun r4 =>
  some (0, r4))
  else some (0, m))
  else (if x2 = 3 then
  M_goesOn_b452 x1 x2 m
  else (if x2 = 6 then
  M_goesOn_b452 x1 x2 m
  else (if x2 = 5 then
  M_goesOn_b531 x1 x2 93 m
  else M_goesOn_b531 x1 x2 41 m))))
def M_goesOn_b400 (x1 : Int) (x2 : Int) (x3 : Int) (m : zM) : Option (Int × zM) :=
  (if x3 = 0 then
  M_goesOn_b422 x1 x2 m
  else rd 20 20 x1 m (fun y2 =>
  (if y2 = 0 then
  (M_blame 1 (m 0 4) m).bind (fun r5 =>
  M_goesOn_b422 x1 x2 r5)
  else M_goesOn_b422 x1 x2 m)))
def M_goesOn_b372 (x1 : Int) (s1 : Int) (m : zM) : Option (Int × zM) :=
  (M_holdsBack s1 m).bind (fun r1 =>
  wr 20 20 x1 0 r1 (fun m4 =>
  wr 21 20 x1 1 m4 (fun m5 =>
  (M_ahead m5).bind (fun r6 =>
  pf 0 43 0 r6 (fun m9 =>
  some (1, m9))))))
def M_goesOn_b356 (x1 : Int) (x4 : Int) (s1 : Int) (m : zM) : Option (Int × zM) :=
  (M_joins s1 m).bind (fun r1 =>
  (if x4 = 0 then
  M_goesOn_b372 x1 42 r1
  else M_goesOn_b372 x1 41 r1))
def M_goesOn_b327 (x1 : Int) (m : zM) : Option (Int × zM) :=
  (if 0 < m 0 8 then
  some (0, m)
  else (M_isWord 6385252 m).bind (fun r3 =>
  (if r3 = 0 then
  M_goesOn_b356 x1 r3 1 m
  else M_goesOn_b356 x1 r3 2 m)))
def M_goesOn_b309 (x1 : Int) (m : zM) : Option (Int × zM) :=
  rd 20 20 x1 m (fun y1 =>
  (if y1 = 0 then
  (M_blame 1 (m 0 4) m).bind (fun r4 =>
  M_goesOn_b327 x1 r4)
  else M_goesOn_b327 x1 m))
def M_goesOn_b285 (x1 : Int) (x2 : Int) (x3 : Int) (m : zM) : Option (Int × zM) :=
  (if x3 = 0 then
  M_goesOn_b400 x1 x2 x3 m
  else (M_isWord 6385252 m).bind (fun r2 =>
  (if r2 = 0 then
  (M_isWord 28530 m).bind (fun r6 =>
  (if r6 = 0 then
  M_goesOn_b400 x1 x2 x3 m
  else M_goesOn_b309 x1 m))
  else M_goesOn_b309 x1 m)))
def M_goesOn_b264 (x1 : Int) (s1 : Int) (m : zM) : Option (Int × zM) :=
  (M_holdsBack s1 m).bind (fun r1 =>
  wr 20 20 x1 1 r1 (fun m4 =>
  (M_ahead m4).bind (fun r5 =>
  pf 0 43 0 r5 (fun m8 =>
  some (1, m8)))))
def M_goesOn_b228 (x1 : Int) (m : zM) : Option (Int × zM) :=
  (M_joins 5 m).bind (fun r1 =>
  (M_isSign 60 r1).bind (fun r4 =>
  (if r4 = 0 then
  (M_isSign 62 r1).bind (fun r8 =>
  (if r8 = 0 then
  M_goesOn_b264 x1 40 r1
  else M_goesOn_b264 x1 39 r1))
  else M_goesOn_b264 x1 38 r1)))
def M_goesOn_b188 (x1 : Int) (x2 : Int) (x3 : Int) (m : zM) : Option (Int × zM) :=
  (if x3 = 0 then
  M_goesOn_b285 x1 x2 x3 m
  else rd 20 20 x1 m (fun y2 =>
  (if y2 = 0 then
  (M_isSign 60 m).bind (fun r4 =>
  (if r4 = 0 then
  (M_isSign 62 m).bind (fun r8 =>
  (if r8 = 0 then
  (M_isSign 61 m).bind (fun r12 =>
  (if r12 = 0 then
  M_goesOn_b285 x1 x2 x3 m
  else M_goesOn_b228 x1 m))
  else M_goesOn_b228 x1 m))
  else M_goesOn_b228 x1 m))
  else M_goesOn_b285 x1 x2 x3 m)))
def M_goesOn_b112 (s1 : Int) (m : zM) : Option (Int × zM) :=
  (M_joins s1 m).bind (fun r1 =>
  (M_isSign 43 r1).bind (fun r4 =>
  (if r4 = 0 then
  (M_isSign 45 r1).bind (fun r8 =>
  (if r8 = 0 then
  (M_isSign 42 r1).bind (fun r12 =>
  (if r12 = 0 then
  (M_isSign 47 r1).bind (fun r16 =>
  (if r16 = 0 then
  (M_holdsBack 35 r1).bind (fun r20 =>
  (M_ahead r20).bind (fun r23 =>
  pf 0 43 0 r23 (fun m26 =>
  some (1, m26))))
  else (M_holdsBack 34 r1).bind (fun r27 =>
  (M_ahead r27).bind (fun r30 =>
  pf 0 43 0 r30 (fun m33 =>
  some (1, m33))))))
  else (M_holdsBack 33 r1).bind (fun r34 =>
  (M_ahead r34).bind (fun r37 =>
  pf 0 43 0 r37 (fun m40 =>
  some (1, m40))))))
  else (M_holdsBack 32 r1).bind (fun r41 =>
  (M_ahead r41).bind (fun r44 =>
  pf 0 43 0 r44 (fun m47 =>
  some (1, m47))))))
  else (M_holdsBack 31 r1).bind (fun r48 =>
  (M_ahead r48).bind (fun r51 =>
  pf 0 43 0 r51 (fun m54 =>
  some (1, m54)))))))
def M_goesOn_b106 (m : zM) : Option (Int × zM) :=
  M_goesOn_b112 5 m
def M_goesOn_b87 (m : zM) : Option (Int × zM) :=
  (M_isSign 43 m).bind (fun r1 =>
  (if r1 = 0 then
  (M_isSign 45 m).bind (fun r5 =>
  (if r5 = 0 then
  M_goesOn_b112 6 m
  else M_goesOn_b106 m))
  else M_goesOn_b106 m))
def M_goesOn (m : zM) : Option (Int × zM) :=
  (M_lex m).bind (fun r1 =>
  (if 0 < r1 0 8 then
  some (0, r1)
  else lt (wI ((r1 0 39) - 1)) (fun v7 =>
  rd 19 20 v7 r1 (fun y8 =>
  (M_isTest y8).bind (fun r9 =>
  rd 20 20 v7 r1 (fun y12 =>
  (if y12 < 2 then
  (M_isSign 43 r1).bind (fun r14 =>
  (if r14 = 0 then
  (M_isSign 45 r1).bind (fun r18 =>
  (if r18 = 0 then
  (M_isSign 42 r1).bind (fun r22 =>
  (if r22 = 0 then
  (M_isSign 47 r1).bind (fun r26 =>
  (if r26 = 0 then
  (M_isSign 37 r1).bind (fun r30 =>
  (if r30 = 0 then
  M_goesOn_b188 v7 y8 r9 r1
  else M_goesOn_b87 r1))
  else M_goesOn_b87 r1))
  else M_goesOn_b87 r1))
  else M_goesOn_b87 r1))
  else M_goesOn_b87 r1))
  else M_goesOn_b188 v7 y8 r9 r1)))))))
def M_reads_b70 (rec : Int → zM → Option (zM)) (x2 : Int) (m : zM) : Option (zM) :=
  (if x2 = 0 then
  rec 0 m
  else (if m 0 8 = 0 then
  rec 1 m
  else rec 0 m))
def M_reads_B43 (rec : Int → zM → Option (zM)) (x2 : Int) (m : zM) : Option (zM) :=
  (if x2 = 0 then
  some m
  else (if m 0 43 = 0 then
  (M_operand m).bind (fun r4 =>
  pf 0 43 r4.1 r4.2 (fun m7 =>
  M_reads_b70 rec x2 m7))
  else (M_goesOn m).bind (fun r8 =>
  M_reads_b70 rec r8.1 r8.2)))
def M_reads_L43  : Nat → Int → zM → Option (zM)
  | 0, _, _ => none
  | n + 1, x2, m => M_reads_B43 (M_reads_L43 n) x2 m
def M_reads_b38 (s1 : Int) (m : zM) : Option (zM) :=
  (M_pushes s1 m).bind (fun r1 =>
  M_reads_L43 1000000 1 r1)
def M_reads (x1 : Int) (m : zM) : Option (zM) :=
  (if 0 < m 0 8 then
  some m
  else pf 0 39 0 m (fun m3 =>
  pf 0 40 0 m3 (fun m4 =>
  pf 0 42 0 m4 (fun m5 =>
  pf 0 43 0 m5 (fun m6 =>
  (if x1 = 0 then
  M_reads_b38 0 m6
  else M_reads_b38 1 m6))))))
def M_counts_b32 (m : zM) : Option (Int × zM) :=
  (if m 0 8 = 0 then
  some (1, m)
  else some (0, m))
def M_counts_b21 (m : zM) : Option (Int × zM) :=
  (if m 0 8 = 0 then
  (M_ahead m).bind (fun r3 =>
  M_counts_b32 r3)
  else M_counts_b32 m)
def M_counts (x1 : Int) (m : zM) : Option (Int × zM) :=
  (if m 0 8 = 0 then
  (if x1 = 0 then
  M_counts_b21 m
  else (M_blame 6 (m 0 4) m).bind (fun r5 =>
  M_counts_b21 r5))
  else M_counts_b21 m)
def M_must__b29 (m : zM) : Option (zM) :=
  (if m 0 8 = 0 then
  (M_ahead m).bind (fun r3 =>
  some r3)
  else some m)
def M_must_ (x1 : Int) (m : zM) : Option (zM) :=
  (M_lex m).bind (fun r1 =>
  (if 0 < r1 0 8 then
  some r1
  else (M_isWord x1 r1).bind (fun r6 =>
  (if r6 = 0 then
  (M_blame 1 (r1 0 4) r1).bind (fun r11 =>
  M_must__b29 r11)
  else M_must__b29 r1))))
def M_fresh_B43 (k83 : zM → Option (Int × zM)) (rec : Int → zM → Option (Int × zM)) (x1 : Int) (m : zM) : Option (Int × zM) :=
  (if 1 < x1 then
  k83 m
  else (if m 0 8 = 0 then
  (M_named x1 (m 0 7) m).bind (fun r5 =>
  (if r5 = (-1) then
  rec (wI (x1 + 1)) m
  else (M_blame 2 (m 0 4) m).bind (fun r10 =>
  rec (wI (x1 + 1)) r10)))
  else k83 m))
def M_fresh_L43 (k83 : zM → Option (Int × zM)) : Nat → Int → zM → Option (Int × zM)
  | 0, _, _ => none
  | n + 1, x1, m => M_fresh_B43 k83 (M_fresh_L43 k83 n) x1 m
def M_fresh_b83 (m : zM) : Option (Int × zM) :=
  (if m 0 8 = 0 then
  (M_ahead m).bind (fun r4 =>
  some (m 0 7, r4))
  else some (m 0 7, m))
def M_fresh_b41 (m : zM) : Option (Int × zM) :=
  M_fresh_L43 (fun m2 => M_fresh_b83 m2) 1000000 0 m
def M_fresh_b32 (m : zM) : Option (Int × zM) :=
  (M_blame 1 (m 0 4) m).bind (fun r2 =>
  M_fresh_b41 r2)
def M_fresh (m : zM) : Option (Int × zM) :=
  (M_lex m).bind (fun r1 =>
  (if 0 < r1 0 8 then
  some (0, r1)
  else (if r1 0 3 = 1 then
  (M_isOwn (r1 0 7)).bind (fun r9 =>
  (if r9 = 0 then
  M_fresh_b41 r1
  else M_fresh_b32 r1))
  else M_fresh_b32 r1)))
def M_has2 (x0 : Int) (x1 : Int) : Option (Int) :=
  (if anI (srI x0 x1) 1 = 1 then
  some 1
  else some 0)
def M_askedBut_b102 (x3 : Int) (m : zM) : Option (Int × zM) :=
  (if 0 < m 0 8 then
  some (0, m)
  else some (x3, m))
def M_askedBut_b91 (x3 : Int) (m : zM) : Option (Int × zM) :=
  (if m 0 8 = 0 then
  (M_ahead m).bind (fun r3 =>
  M_askedBut_b102 x3 r3)
  else M_askedBut_b102 x3 m)
def M_askedBut_b82 (x3 : Int) (m : zM) : Option (Int × zM) :=
  (M_blame 3 (m 0 4) m).bind (fun r2 =>
  M_askedBut_b91 x3 r2)
def M_askedBut_b61 (x2 : Int) (s0 : Int) (m : zM) : Option (Int × zM) :=
  (if m 0 8 = 0 then
  (if s0 = (-1) then
  M_askedBut_b82 s0 m
  else (M_has2 x2 s0).bind (fun r4 =>
  (if r4 = 0 then
  M_askedBut_b91 s0 m
  else M_askedBut_b82 s0 m)))
  else M_askedBut_b91 s0 m)
def M_askedBut_b41 (x1 : Int) (x2 : Int) (m : zM) : Option (Int × zM) :=
  (if 0 < m 0 8 then
  M_askedBut_b61 x2 0 m
  else (M_named x1 (m 0 7) m).bind (fun r4 =>
  M_askedBut_b61 x2 r4 m))
def M_askedBut_b32 (x1 : Int) (x2 : Int) (m : zM) : Option (Int × zM) :=
  (M_blame 1 (m 0 4) m).bind (fun r2 =>
  M_askedBut_b41 x1 x2 r2)
def M_askedBut (x1 : Int) (x2 : Int) (m : zM) : Option (Int × zM) :=
  (M_lex m).bind (fun r1 =>
  (if 0 < r1 0 8 then
  some (0, r1)
  else (if r1 0 3 = 1 then
  (M_isOwn (r1 0 7)).bind (fun r9 =>
  (if r9 = 0 then
  M_askedBut_b41 x1 x2 r1
  else M_askedBut_b32 x1 x2 r1))
  else M_askedBut_b32 x1 x2 r1)))
def M_beasting_B133 (k155 : zM → Option (zM)) (rec : Int → Int → zM → Option (zM)) (x1 : Int) (x2 : Int) (m : zM) : Option (zM) :=
  (if x2 < 3 then
  wr 6 36 (wI ((wI (3 * x1)) + x2)) 1 m (fun m2 =>
  rec x1 (wI (x2 + 1)) m2)
  else k155 m)
def M_beasting_L133 (k155 : zM → Option (zM)) : Nat → Int → Int → zM → Option (zM)
  | 0, _, _, _ => none
  | n + 1, x1, x2, m => M_beasting_B133 k155 (M_beasting_L133 k155 n) x1 x2 m
def M_beasting_b105 (x1 : Int) (a0 : Nat) (n0 : Nat) (s1 : Int) (s3 : Int) (m : zM) : Option (zM) :=
  (M_number s3 23 m).bind (fun r1 =>
  wr a0 n0 s1 r1.1 r1.2 (fun m4 =>
  (M_must_ 24948 m4).bind (fun r5 =>
  (M_number 0 99 r5).bind (fun r8 =>
  wr 5 12 x1 r8.1 r8.2 (fun m11 =>
  M_beasting_L133 (fun m13 => (if m13 0 8 = 0 then
  rd 2 2 (m13 0 32) m13 (fun y17 =>
  wr 2 2 (m13 0 32) (wI (y17 + 1)) m13 (fun m18 =>
  some m18))
  else some m13)) 1000000 x1 0 m11)))))
def M_beasting_b20 (s1 : Int) (m : zM) : Option (zM) :=
  (M_counts s1 m).bind (fun r1 =>
  (if r1.1 = 0 then
  some r1.2
  else rd 2 2 (r1.2 0 32) r1.2 (fun y7 =>
  lt (wI ((wI (6 * (r1.2 0 32))) + y7)) (fun v8 =>
  (M_fresh r1.2).bind (fun r9 =>
  wr 17 12 v8 r9.1 r9.2 (fun m12 =>
  (M_must_ 512735536499 m12).bind (fun r13 =>
  (M_number 0 23 r13).bind (fun r16 =>
  wr 3 12 v8 r16.1 r16.2 (fun m19 =>
  (M_must_ 29807 m19).bind (fun r20 =>
  (if 0 < r20 0 8 then
  M_beasting_b105 v8 4 12 v8 0 r20
  else rd 3 12 v8 r20 (fun y25 =>
  M_beasting_b105 v8 4 12 v8 y25 r20))))))))))))
def M_beasting (m : zM) : Option (zM) :=
  rd 2 2 (m 0 32) m (fun y2 =>
  (if y2 = 6 then
  M_beasting_b20 1 m
  else M_beasting_b20 0 m))
def M_threes_B2 (rec : Int → zM → Option (zM)) (x1 : Int) (m : zM) : Option (zM) :=
  (if x1 < 3 then
  (M_number 0 9 m).bind (fun r2 =>
  wr 25 3 x1 r2.1 r2.2 (fun m5 =>
  rec (wI (x1 + 1)) m5))
  else some m)
def M_threes_L2  : Nat → Int → zM → Option (zM)
  | 0, _, _ => none
  | n + 1, x1, m => M_threes_B2 (M_threes_L2 n) x1 m
def M_threes (m : zM) : Option (zM) :=
  M_threes_L2 1000000 0 m
def M_tasting_B22 (rec : Int → Int → zM → Option (zM)) (x1 : Int) (x2 : Int) (m : zM) : Option (zM) :=
  (if x2 < 3 then
  (if m 0 8 = 0 then
  rd 25 3 x2 m (fun y5 =>
  wr 6 36 (wI ((wI (3 * (wI ((wI (6 * (m 0 32))) + x1)))) + x2)) y5 m (fun m6 =>
  rec x1 (wI (x2 + 1)) m6))
  else some m)
  else some m)
def M_tasting_L22  : Nat → Int → Int → zM → Option (zM)
  | 0, _, _, _ => none
  | n + 1, x1, x2, m => M_tasting_B22 (M_tasting_L22 n) x1 x2 m
def M_tasting (m : zM) : Option (zM) :=
  (M_counts 0 m).bind (fun r1 =>
  (if r1.1 = 0 then
  some r1.2
  else (M_askedBut 0 0 r1.2).bind (fun r5 =>
  (M_threes r5.2).bind (fun r8 =>
  M_tasting_L22 1000000 r5.1 0 r8))))
def M_guesting_B61 (k88 : Int → zM → Option (zM)) (rec : Int → Int → zM → Option (zM)) (x1 : Int) (x2 : Int) (m : zM) : Option (zM) :=
  (if x2 < 3 then
  rd 25 3 x2 m (fun y2 =>
  wr 8 48 (wI ((wI (3 * x1)) + x2)) y2 m (fun m3 =>
  rec x1 (wI (x2 + 1)) m3))
  else k88 x1 m)
def M_guesting_L61 (k88 : Int → zM → Option (zM)) : Nat → Int → Int → zM → Option (zM)
  | 0, _, _, _ => none
  | n + 1, x1, x2, m => M_guesting_B61 k88 (M_guesting_L61 k88 n) x1 x2 m
def M_guesting_b138 (x1 : Int) (a0 : Nat) (n0 : Nat) (s1 : Int) (s3 : Int) (m : zM) : Option (zM) :=
  (M_number s3 23 m).bind (fun r1 =>
  wr a0 n0 s1 r1.1 r1.2 (fun m4 =>
  wr 11 16 x1 0 m4 (fun m5 =>
  (if m5 0 8 = 0 then
  rd 7 2 (m5 0 32) m5 (fun y9 =>
  wr 7 2 (m5 0 32) (wI (y9 + 1)) m5 (fun m10 =>
  some m10))
  else some m5))))
def M_guesting_b20 (s1 : Int) (m : zM) : Option (zM) :=
  (M_counts s1 m).bind (fun r1 =>
  (if r1.1 = 0 then
  some r1.2
  else rd 7 2 (r1.2 0 32) r1.2 (fun y7 =>
  lt (wI ((wI (8 * (r1.2 0 32))) + y7)) (fun v8 =>
  (M_fresh r1.2).bind (fun r9 =>
  wr 18 16 v8 r9.1 r9.2 (fun m12 =>
  (M_threes m12).bind (fun r13 =>
  M_guesting_L61 (fun x1_16 m17 => (M_must_ 427071202675 m17).bind (fun r18 =>
  (M_number 0 23 r18).bind (fun r21 =>
  wr 9 16 x1_16 r21.1 r21.2 (fun m24 =>
  (M_must_ 29807 m24).bind (fun r25 =>
  (if 0 < r25 0 8 then
  M_guesting_b138 x1_16 10 16 x1_16 0 r25
  else rd 9 16 x1_16 r25 (fun y30 =>
  M_guesting_b138 x1_16 10 16 x1_16 y30 r25))))))) 1000000 v8 0 r13)))))))
def M_guesting (m : zM) : Option (zM) :=
  rd 7 2 (m 0 32) m (fun y2 =>
  (if y2 = 8 then
  M_guesting_b20 1 m
  else M_guesting_b20 0 m))
def M_fearing (m : zM) : Option (zM) :=
  (M_counts 0 m).bind (fun r1 =>
  (if r1.1 = 0 then
  some r1.2
  else (M_askedBut 1 0 r1.2).bind (fun r5 =>
  rd 11 16 (wI ((wI (8 * (r5.2 0 32))) + r5.1)) r5.2 (fun y9 =>
  (M_askedBut 0 y9 r5.2).bind (fun r10 =>
  (if r10.2 0 8 = 0 then
  rd 11 16 (wI ((wI (8 * (r10.2 0 32))) + r5.1)) r10.2 (fun y16 =>
  wr 11 16 (wI ((wI (8 * (r10.2 0 32))) + r5.1)) (orI y16 (slI 1 r10.1)) r10.2 (fun m17 =>
  some m17))
  else some r10.2))))))
def M_reading_b43 (x1 : Int) (x2 : Int) (s1 : Int) (m : zM) : Option (zM) :=
  pf 0 33 s1 m (fun m1 =>
  wr 13 4 x2 (m1 0 31) m1 (fun m3 =>
  (if x1 = 1 then
  (M_reads 1 m3).bind (fun r5 =>
  wr 14 4 x2 (r5 0 31) r5 (fun m9 =>
  some m9))
  else (M_reads 0 m3).bind (fun r10 =>
  wr 14 4 x2 (r10 0 31) r10 (fun m14 =>
  some m14)))))
def M_reading_b25 (x1 : Int) (x2 : Int) (s1 : Int) (m : zM) : Option (zM) :=
  (M_counts s1 m).bind (fun r1 =>
  (if r1.1 = 0 then
  some r1.2
  else (if x1 = 1 then
  M_reading_b43 x1 x2 1 r1.2
  else M_reading_b43 x1 x2 0 r1.2)))
def M_reading (x1 : Int) (m : zM) : Option (zM) :=
  lt (wI ((wI (2 * (m 0 32))) + x1)) (fun v2 =>
  rd 13 4 v2 m (fun y3 =>
  (if y3 = (-1) then
  M_reading_b25 x1 v2 0 m
  else M_reading_b25 x1 v2 1 m)))
def M_telling (x1 : Int) (x2 : Int) (x3 : Int) (m : zM) : Option (zM) :=
  (M_counts 0 m).bind (fun r1 =>
  (if r1.1 = 0 then
  some r1.2
  else (M_number x2 x3 r1.2).bind (fun r5 =>
  (if r5.2 0 8 = 0 then
  wr 12 10 (wI ((wI (5 * (r5.2 0 32))) + x1)) r5.1 r5.2 (fun m11 =>
  some m11)
  else some r5.2))))
def M_statement (m : zM) : Option (zM) :=
  (M_lex m).bind (fun r1 =>
  (if 0 < r1 0 8 then
  some r1
  else (M_isWord 422607680372 r1).bind (fun r6 =>
  (if r6 = 0 then
  (M_isWord 499851162725 r1).bind (fun r10 =>
  (if r10 = 0 then
  (M_isWord 444351214452 r1).bind (fun r14 =>
  (if r14 = 0 then
  (M_isWord 439787549299 r1).bind (fun r18 =>
  (if r18 = 0 then
  (M_isWord 465625113971 r1).bind (fun r22 =>
  (if r22 = 0 then
  (M_isWord 7168377 r1).bind (fun r26 =>
  (if r26 = 0 then
  (M_isWord 129138533167731 r1).bind (fun r30 =>
  (if r30 = 0 then
  (M_isWord 422776563059 r1).bind (fun r34 =>
  (if r34 = 0 then
  (M_isWord 461262647411 r1).bind (fun r38 =>
  (if r38 = 0 then
  (M_isWord 6710629 r1).bind (fun r42 =>
  (if r42 = 0 then
  (M_isWord 1918986606 r1).bind (fun r46 =>
  (if r46 = 0 then
  (M_blame 1 (r1 0 4) r1).bind (fun r51 =>
  some r51)
  else (M_telling 4 0 100 r1).bind (fun r54 =>
  some r54)))
  else (M_telling 3 0 99 r1).bind (fun r57 =>
  some r57)))
  else (M_telling 2 2 9 r1).bind (fun r60 =>
  some r60)))
  else (M_telling 1 0 99 r1).bind (fun r63 =>
  some r63)))
  else (M_telling 0 0 6 r1).bind (fun r66 =>
  some r66)))
  else (M_reading 1 r1).bind (fun r69 =>
  some r69)))
  else (M_reading 0 r1).bind (fun r72 =>
  some r72)))
  else (M_fearing r1).bind (fun r75 =>
  some r75)))
  else (M_guesting r1).bind (fun r78 =>
  some r78)))
  else (M_tasting r1).bind (fun r81 =>
  some r81)))
  else (M_beasting r1).bind (fun r84 =>
  some r84)))))
def M_finishes_B17 (k53 : Int → Int → zM → Option (zM)) (rec : Int → Int → zM → Option (zM)) (x1 : Int) (x2 : Int) (m : zM) : Option (zM) :=
  (if x2 < m 0 2 then
  rd 1 1800 x2 m (fun y3 =>
  (if y3 = 32 then
  rec x1 (wI (x2 + 1)) m
  else rd 1 1800 x2 m (fun y5 =>
  (if y5 = 10 then
  rec x1 (wI (x2 + 1)) m
  else k53 x1 x2 m))))
  else k53 x1 x2 m)
def M_finishes_L17 (k53 : Int → Int → zM → Option (zM)) : Nat → Int → Int → zM → Option (zM)
  | 0, _, _, _ => none
  | n + 1, x1, x2, m => M_finishes_B17 k53 (M_finishes_L17 k53 n) x1 x2 m
def M_finishes_b53 (x1 : Int) (x2 : Int) (m : zM) : Option (zM) :=
  (M_isSign 59 m).bind (fun r1 =>
  (if r1 = 0 then
  (M_must 59 m).bind (fun r5 =>
  some r5)
  else (if x1 = 80 then
  (if x2 < m 0 2 then
  (M_blame 6 x2 m).bind (fun r11 =>
  (M_must 59 r11).bind (fun r14 =>
  some r14))
  else (M_must 59 m).bind (fun r17 =>
  some r17))
  else (M_must 59 m).bind (fun r20 =>
  some r20))))
def M_finishes (x1 : Int) (m : zM) : Option (zM) :=
  (M_lex m).bind (fun r1 =>
  (if 0 < r1 0 8 then
  some r1
  else M_finishes_L17 (fun x1_7 x2_7 m8 => M_finishes_b53 x1_7 x2_7 m8) 1000000 x1 (r1 0 5) r1))
def M_dawns_B2 (k38 : Int → zM → Option (zM)) (rec : Int → Int → zM → Option (zM)) (x1 : Int) (x2 : Int) (m : zM) : Option (zM) :=
  (if x2 < 8 then
  wr 30 176 (wI ((wI (8 * x1)) + x2)) ((-1)) m (fun m2 =>
  wr 31 176 (wI ((wI (8 * x1)) + x2)) 0 m2 (fun m3 =>
  rec x1 (wI (x2 + 1)) m3))
  else k38 x1 m)
def M_dawns_L2 (k38 : Int → zM → Option (zM)) : Nat → Int → Int → zM → Option (zM)
  | 0, _, _, _ => none
  | n + 1, x1, x2, m => M_dawns_B2 k38 (M_dawns_L2 k38 n) x1 x2 m
def M_dawns_B40 (rec : Int → Int → zM → Option (zM)) (x1 : Int) (x2 : Int) (m : zM) : Option (zM) :=
  (if x2 < 48 then
  wr 34 1056 (wI ((wI (48 * x1)) + x2)) 0 m (fun m2 =>
  rec x1 (wI (x2 + 1)) m2)
  else some m)
def M_dawns_L40  : Nat → Int → Int → zM → Option (zM)
  | 0, _, _, _ => none
  | n + 1, x1, x2, m => M_dawns_B40 (M_dawns_L40 n) x1 x2 m
def M_dawns (x1 : Int) (m : zM) : Option (zM) :=
  M_dawns_L2 (fun x1_1 m2 => M_dawns_L40 1000000 x1_1 0 m2) 1000000 x1 0 m
def M_begin_B16 (k48 : zM → Option (zM)) (rec : Int → zM → Option (zM)) (x1 : Int) (m : zM) : Option (zM) :=
  (if x1 < 24 then
  rd 8 48 (wI ((wI (24 * (m 0 13))) + x1)) m (fun y3 =>
  wr 29 528 x1 y3 m (fun m4 =>
  rec (wI (x1 + 1)) m4))
  else k48 m)
def M_begin_L16 (k48 : zM → Option (zM)) : Nat → Int → zM → Option (zM)
  | 0, _, _ => none
  | n + 1, x1, m => M_begin_B16 k48 (M_begin_L16 k48 n) x1 m
def M_begin_B50 (k82 : zM → Option (zM)) (rec : Int → zM → Option (zM)) (x1 : Int) (m : zM) : Option (zM) :=
  (if x1 < 18 then
  rd 6 36 (wI ((wI (18 * (m 0 13))) + x1)) m (fun y3 =>
  wr 32 396 x1 y3 m (fun m4 =>
  rec (wI (x1 + 1)) m4))
  else k82 m)
def M_begin_L50 (k82 : zM → Option (zM)) : Nat → Int → zM → Option (zM)
  | 0, _, _ => none
  | n + 1, x1, m => M_begin_B50 k82 (M_begin_L50 k82 n) x1 m
def M_begin_B84 (k103 : zM → Option (zM)) (rec : Int → zM → Option (zM)) (x1 : Int) (m : zM) : Option (zM) :=
  (if x1 < 48 then
  wr 33 1056 x1 0 m (fun m2 =>
  rec (wI (x1 + 1)) m2)
  else k103 m)
def M_begin_L84 (k103 : zM → Option (zM)) : Nat → Int → zM → Option (zM)
  | 0, _, _ => none
  | n + 1, x1, m => M_begin_B84 k103 (M_begin_L84 k103 n) x1 m
def M_begin (m : zM) : Option (zM) :=
  wr 27 22 0 0 m (fun m1 =>
  wr 28 22 0 0 m1 (fun m2 =>
  M_begin_L16 (fun m4 => M_begin_L50 (fun m6 => M_begin_L84 (fun m8 => (M_dawns 0 m8).bind (fun r9 =>
  wr 35 22 0 0 r9 (fun m12 =>
  pf 0 57 0 m12 (fun m13 =>
  pf 0 65 0 m13 (fun m14 =>
  some m14))))) 1000000 0 m6) 1000000 0 m4) 1000000 0 m2))
def M_zoo_B103 (k132 : Int → zM → Option (Int × zM)) (rec : Int → zM → Option (Int × zM)) (x1 : Int) (m : zM) : Option (Int × zM) :=
  (if m 0 8 = 0 then
  (if m 0 3 = 0 then
  k132 x1 m
  else (M_statement m).bind (fun r5 =>
  (M_finishes (wI (x1 + 1)) r5).bind (fun r8 =>
  rec (wI (x1 + 1)) r8)))
  else k132 x1 m)
def M_zoo_L103 (k132 : Int → zM → Option (Int × zM)) : Nat → Int → zM → Option (Int × zM)
  | 0, _, _ => none
  | n + 1, x1, m => M_zoo_B103 k132 (M_zoo_L103 k132 n) x1 m
def M_zoo_b132 (x1 : Int) (m : zM) : Option (Int × zM) :=
  pf 0 10 (m 0 8) m (fun m2 =>
  pf 0 11 (m2 0 9) m2 (fun m4 =>
  (if 0 < m4 0 8 then
  (M_refuses 1 m4).bind (fun r7 =>
  some (r7.1, r7.2))
  else pf 0 13 (m4 0 32) m4 (fun m11 =>
  (M_begin m11).bind (fun r12 =>
  some (x1, r12))))))
def M_zoo (m : zM) : Option (Int × zM) :=
  pf 0 2 (m 0 1) m (fun m2 =>
  pf 0 1 0 m2 (fun m3 =>
  pf 0 5 0 m3 (fun m4 =>
  pf 0 8 0 m4 (fun m5 =>
  pf 0 9 ((-1)) m5 (fun m6 =>
  pf 0 32 (wI (1 - (m6 0 13))) m6 (fun m8 =>
  wr 2 2 (m8 0 32) 0 m8 (fun m10 =>
  wr 7 2 (m10 0 32) 0 m10 (fun m12 =>
  (M_isDefault (m12 0 32) m12).bind (fun r14 =>
  wr 13 4 (wI (2 * (r14 0 32))) ((-1)) r14 (fun m18 =>
  wr 13 4 (wI ((wI (2 * (m18 0 32))) + 1)) ((-1)) m18 (fun m20 =>
  pf 0 31 0 m20 (fun m21 =>
  (M_ahead m21).bind (fun r22 =>
  M_zoo_L103 (fun x1_25 m26 => M_zoo_b132 x1_25 m26) 1000000 0 r22)))))))))))))
def M_fault (x1 : Int) (m : zM) : Option (Int) :=
  (if x1 = 0 then
  some (m 0 10)
  else (if x1 = 1 then
  some (m 0 11)
  else some ((-1))))
def M_status (x1 : Int) (m : zM) : Option (Int) :=
  (M_is x1 0 5).bind (fun r1 =>
  (if r1 = 0 then
  some ((-1))
  else rd 26 6 x1 m (fun y5 =>
  some y5)))
def M_copies_B26 (k60 : Int → Int → zM → Option (zM)) (rec : Int → Int → Int → zM → Option (zM)) (x1 : Int) (x2 : Int) (x3 : Int) (m : zM) : Option (zM) :=
  (if x3 < 24 then
  rd 29 528 (wI ((wI (24 * x2)) + x3)) m (fun y2 =>
  wr 29 528 (wI ((wI (24 * x1)) + x3)) y2 m (fun m3 =>
  rec x1 x2 (wI (x3 + 1)) m3))
  else k60 x1 x2 m)
def M_copies_L26 (k60 : Int → Int → zM → Option (zM)) : Nat → Int → Int → Int → zM → Option (zM)
  | 0, _, _, _, _ => none
  | n + 1, x1, x2, x3, m => M_copies_B26 k60 (M_copies_L26 k60 n) x1 x2 x3 m
def M_copies_B62 (k118 : Int → Int → zM → Option (zM)) (rec : Int → Int → Int → zM → Option (zM)) (x1 : Int) (x2 : Int) (x3 : Int) (m : zM) : Option (zM) :=
  (if x3 < 8 then
  rd 30 176 (wI ((wI (8 * x2)) + x3)) m (fun y2 =>
  wr 30 176 (wI ((wI (8 * x1)) + x3)) y2 m (fun m3 =>
  rd 31 176 (wI ((wI (8 * x2)) + x3)) m3 (fun y4 =>
  wr 31 176 (wI ((wI (8 * x1)) + x3)) y4 m3 (fun m5 =>
  rec x1 x2 (wI (x3 + 1)) m5))))
  else k118 x1 x2 m)
def M_copies_L62 (k118 : Int → Int → zM → Option (zM)) : Nat → Int → Int → Int → zM → Option (zM)
  | 0, _, _, _, _ => none
  | n + 1, x1, x2, x3, m => M_copies_B62 k118 (M_copies_L62 k118 n) x1 x2 x3 m
def M_copies_B120 (k154 : Int → Int → zM → Option (zM)) (rec : Int → Int → Int → zM → Option (zM)) (x1 : Int) (x2 : Int) (x3 : Int) (m : zM) : Option (zM) :=
  (if x3 < 18 then
  rd 32 396 (wI ((wI (18 * x2)) + x3)) m (fun y2 =>
  wr 32 396 (wI ((wI (18 * x1)) + x3)) y2 m (fun m3 =>
  rec x1 x2 (wI (x3 + 1)) m3))
  else k154 x1 x2 m)
def M_copies_L120 (k154 : Int → Int → zM → Option (zM)) : Nat → Int → Int → Int → zM → Option (zM)
  | 0, _, _, _, _ => none
  | n + 1, x1, x2, x3, m => M_copies_B120 k154 (M_copies_L120 k154 n) x1 x2 x3 m
def M_copies_B156 (k212 : Int → Int → zM → Option (zM)) (rec : Int → Int → Int → zM → Option (zM)) (x1 : Int) (x2 : Int) (x3 : Int) (m : zM) : Option (zM) :=
  (if x3 < 48 then
  rd 33 1056 (wI ((wI (48 * x2)) + x3)) m (fun y2 =>
  wr 33 1056 (wI ((wI (48 * x1)) + x3)) y2 m (fun m3 =>
  rd 34 1056 (wI ((wI (48 * x2)) + x3)) m3 (fun y4 =>
  wr 34 1056 (wI ((wI (48 * x1)) + x3)) y4 m3 (fun m5 =>
  rec x1 x2 (wI (x3 + 1)) m5))))
  else k212 x1 x2 m)
def M_copies_L156 (k212 : Int → Int → zM → Option (zM)) : Nat → Int → Int → Int → zM → Option (zM)
  | 0, _, _, _, _ => none
  | n + 1, x1, x2, x3, m => M_copies_B156 k212 (M_copies_L156 k212 n) x1 x2 x3 m
def M_copies_B226 (rec : Int → Int → Int → zM → Option (zM)) (x1 : Int) (x2 : Int) (x3 : Int) (m : zM) : Option (zM) :=
  rd 35 22 x2 m (fun y1 =>
  (if x3 < wI (5 * y1) then
  rd 36 6600 (wI ((wI (300 * x2)) + x3)) m (fun y3 =>
  wr 36 6600 (wI ((wI (300 * x1)) + x3)) y3 m (fun m4 =>
  rec x1 x2 (wI (x3 + 1)) m4))
  else some m))
def M_copies_L226  : Nat → Int → Int → Int → zM → Option (zM)
  | 0, _, _, _, _ => none
  | n + 1, x1, x2, x3, m => M_copies_B226 (M_copies_L226 n) x1 x2 x3 m
def M_copies (x1 : Int) (x2 : Int) (m : zM) : Option (zM) :=
  rd 27 22 x2 m (fun y1 =>
  wr 27 22 x1 y1 m (fun m2 =>
  rd 28 22 x2 m2 (fun y3 =>
  wr 28 22 x1 y3 m2 (fun m4 =>
  M_copies_L26 (fun x1_5 x2_5 m6 => M_copies_L62 (fun x1_7 x2_7 m8 => M_copies_L120 (fun x1_9 x2_9 m10 => M_copies_L156 (fun x1_11 x2_11 m12 => rd 35 22 x2_11 m12 (fun y13 =>
  wr 35 22 x1_11 y13 m12 (fun m14 =>
  M_copies_L226 1000000 x1_11 x2_11 0 m14))) 1000000 x1_9 x2_9 0 m10) 1000000 x1_7 x2_7 0 m8) 1000000 x1_5 x2_5 0 m6) 1000000 x1 x2 0 m4))))
def M_slot (x1 : Int) (m : zM) : Option (Int) :=
  some (wI (2 + (rmI (wI ((m 0 56) + x1)) 20)))
def M_keeps_b32 (m : zM) : Option (zM) :=
  (M_slot (m 0 57) m).bind (fun r2 =>
  (M_copies r2 0 m).bind (fun r5 =>
  pf 0 57 (wI ((r5 0 57) + 1)) r5 (fun m9 =>
  some m9)))
def M_keeps (m : zM) : Option (zM) :=
  (if m 0 57 = 20 then
  pf 0 56 (rmI (wI ((m 0 56) + 1)) 20) m (fun m4 =>
  pf 0 57 (wI ((m4 0 57) - 1)) m4 (fun m6 =>
  M_keeps_b32 m6))
  else M_keeps_b32 m)
def M_undo (m : zM) : Option (Int × zM) :=
  (if m 0 57 = 0 then
  (M_refuses 4 m).bind (fun r3 =>
  (if r3.1 < 0 then
  some (0, r3.2)
  else some (1, r3.2)))
  else pf 0 57 (wI ((m 0 57) - 1)) m (fun m8 =>
  (M_slot (m8 0 57) m8).bind (fun r10 =>
  (M_copies 0 r10 m8).bind (fun r13 =>
  some (1, r13)))))
def M_held (x0 : Int) : Option (Int) :=
  (if 1000000 < x0 then
  some 1000000
  else (if x0 < (-1000000) then
  some ((-1000000))
  else some x0))
def M_floor_b43 (x4 : Int) (s0 : Int) (s1 : Int) : Option (Int) :=
  (if s0 = s1 then
  some x4
  else some (wL (x4 - 1)))
def M_floor_b32 (x2 : Int) (x4 : Int) (s0 : Int) : Option (Int) :=
  (if x2 < 0 then
  M_floor_b43 x4 s0 1
  else M_floor_b43 x4 s0 0)
def M_floor (x0 : Int) (x2 : Int) : Option (Int) :=
  (if x2 = 0 then
  some 0
  else nz x2 (nz x2 ((if rmL x0 x2 = 0 then
  some (dvL x0 x2)
  else (if x0 < 0 then
  M_floor_b32 x2 (dvL x0 x2) 1
  else M_floor_b32 x2 (dvL x0 x2) 0)))))
def M_two (x0 : Int) (x1 : Int) (x3 : Int) : Option (Int) :=
  (if x0 = 31 then (M_held (wL (x1 + x3))).bind (fun r12 =>
  some r12)
  else if x0 = 32 then (M_held (wL (x1 - x3))).bind (fun r15 =>
  some r15)
  else if x0 = 33 then (M_held (wL (x1 * x3))).bind (fun r18 =>
  some r18)
  else if x0 = 34 then (M_floor x1 x3).bind (fun r21 =>
  (M_held r21).bind (fun r24 =>
  some r24))
  else if x0 = 35 then (if x3 = 0 then
  some 0
  else (M_floor x1 x3).bind (fun r28 =>
  (M_held (wL (x1 - (wL (x3 * r28))))).bind (fun r31 =>
  some r31)))
  else if x0 = 36 then (if x1 < x3 then
  some x1
  else some x3)
  else if x0 = 37 then (if x3 < x1 then
  some x1
  else some x3)
  else if x0 = 38 then (if x1 < x3 then
  some 1
  else some 0)
  else if x0 = 39 then (if x3 < x1 then
  some 1
  else some 0)
  else if x0 = 40 then (if x1 = x3 then
  some 1
  else some 0)
  else if x0 = 41 then some (anL x1 x3)
  else some (orL x1 x3))
def M_reckons_B25 (rec : Int → Int → Int → zM → Option (Int × zM)) (x1 : Int) (x2 : Int) (x3 : Int) (m : zM) : Option (Int × zM) :=
  rd 14 4 (wI ((wI (2 * (m 0 13))) + x1)) m (fun y3 =>
  (if x3 < wI ((wI (1600 * (m 0 13))) + y3) then
  rd 15 3200 x3 m (fun y5 =>
  (if 30 < y5 then
  (if y5 = 43 then
  rd 37 500 (wI (x2 - 1)) m (fun y8 =>
  wr 37 500 (wI (x2 - 1)) (wL (1 - y8)) m (fun m9 =>
  rec x1 x2 (wI (x3 + 1)) m9))
  else (if y5 = 44 then
  rd 37 500 (wI ((wI (x2 + (-2))) - 1)) m (fun y11 =>
  (if y11 = 1 then
  rd 37 500 (wI (x2 + (-2))) m (fun y13 =>
  wr 37 500 (wI ((wI (x2 + (-2))) - 1)) y13 m (fun m14 =>
  rec x1 (wI (x2 + (-2))) (wI (x3 + 1)) m14))
  else rd 37 500 (wI ((wI (x2 + (-2))) + 1)) m (fun y15 =>
  wr 37 500 (wI ((wI (x2 + (-2))) - 1)) y15 m (fun m16 =>
  rec x1 (wI (x2 + (-2))) (wI (x3 + 1)) m16))))
  else rd 37 500 (wI ((wI (x2 + (-1))) - 1)) m (fun y17 =>
  rd 37 500 (wI (x2 + (-1))) m (fun y18 =>
  (M_two y5 y17 y18).bind (fun r19 =>
  wr 37 500 (wI ((wI (x2 + (-1))) - 1)) r19 m (fun m22 =>
  rec x1 (wI (x2 + (-1))) (wI (x3 + 1)) m22))))))
  else (if y5 = 0 then
  rd 16 3200 x3 m (fun y24 =>
  wr 37 500 x2 y24 m (fun m25 =>
  rec x1 (wI (x2 + 1)) (wI (x3 + 1)) m25))
  else (if y5 = 30 then
  wr 37 500 x2 1 m (fun m27 =>
  rec x1 (wI (x2 + 1)) (wI (x3 + 1)) m27)
  else rd 38 12 y5 m (fun y28 =>
  wr 37 500 x2 y28 m (fun m29 =>
  rec x1 (wI (x2 + 1)) (wI (x3 + 1)) m29))))))
  else rd 37 500 0 m (fun y30 =>
  some (y30, m))))
def M_reckons_L25  : Nat → Int → Int → Int → zM → Option (Int × zM)
  | 0, _, _, _, _ => none
  | n + 1, x1, x2, x3, m => M_reckons_B25 (M_reckons_L25 n) x1 x2 x3 m
def M_reckons (x1 : Int) (m : zM) : Option (Int × zM) :=
  rd 13 4 (wI ((wI (2 * (m 0 13))) + x1)) m (fun y3 =>
  lt (wI ((wI (1600 * (m 0 13))) + y3)) (fun v4 =>
  M_reckons_L25 1000000 x1 0 v4 m))
def M_isTold (x1 : Int) (m : zM) : Option (Int) :=
  rd 13 4 (wI ((wI (2 * (m 0 13))) + x1)) m (fun y2 =>
  (if y2 = (-1) then
  some 0
  else some 1))
def M_look (x1 : Int) (x2 : Int) (x3 : Int) (m : zM) : Option (Int) :=
  rd 29 528 (wI ((wI ((wI (24 * x1)) + (wI (3 * x2)))) + x3)) m (fun y1 =>
  some y1)
def M_tasteIn (x1 : Int) (x2 : Int) (x3 : Int) (m : zM) : Option (Int) :=
  rd 32 396 (wI ((wI ((wI (18 * x1)) + (wI (3 * x2)))) + x3)) m (fun y1 =>
  some y1)
def M_pair (x1 : Int) (x2 : Int) (x3 : Int) : Option (Int) :=
  some (wI ((wI ((wI (48 * x1)) + (wI (8 * x2)))) + x3))
def M_hourIn (x1 : Int) (m : zM) : Option (Int) :=
  rd 27 22 x1 m (fun y1 =>
  some (rmI y1 24))
def M_suiting_B6 (rec : Int → Int → Int → Int → Int → Option (Int)) (x1 : Int) (x2 : Int) (x3 : Int) (x4 : Int) (x5 : Int) (m : zM) : Option (Int) :=
  (if x5 < 3 then
  (M_look x1 x3 x5 m).bind (fun r2 =>
  (M_tasteIn x1 x2 x5 m).bind (fun r5 =>
  lt (wI (x4 + (wI (r2 * r5)))) (fun v8 =>
  rec x1 x2 x3 v8 (wI (x5 + 1)))))
  else some x4)
def M_suiting_L6 (m : zM) : Nat → Int → Int → Int → Int → Int → Option (Int)
  | 0, _, _, _, _, _ => none
  | n + 1, x1, x2, x3, x4, x5 => M_suiting_B6 (M_suiting_L6 m n) x1 x2 x3 x4 x5 m
def M_suiting (x1 : Int) (x2 : Int) (x3 : Int) (m : zM) : Option (Int) :=
  M_suiting_L6 m 1000000 x1 x2 x3 0 0
def M_tells (x1 : Int) (x2 : Int) (x3 : Int) (m : zM) : Option (zM) :=
  (M_suiting x1 x2 x3 m).bind (fun r1 =>
  wr 38 12 1 r1 m (fun m4 =>
  (M_pair x1 x2 x3).bind (fun r5 =>
  rd 33 1056 r5 m4 (fun y8 =>
  wr 38 12 2 y8 m4 (fun m9 =>
  (M_hourIn x1 m9).bind (fun r10 =>
  wr 38 12 3 r10 m9 (fun m13 =>
  (M_look x1 x3 0 m13).bind (fun r14 =>
  wr 38 12 4 r14 m13 (fun m17 =>
  (M_look x1 x3 1 m17).bind (fun r18 =>
  wr 38 12 5 r18 m17 (fun m21 =>
  (M_look x1 x3 2 m21).bind (fun r22 =>
  wr 38 12 6 r22 m21 (fun m25 =>
  some m25)))))))))))))
def M_liked (x1 : Int) (x2 : Int) (x3 : Int) (m : zM) : Option (Int × zM) :=
  (M_isTold 0 m).bind (fun r1 =>
  (if r1 = 0 then
  (M_suiting x1 x2 x3 m).bind (fun r5 =>
  (M_pair x1 x2 x3).bind (fun r8 =>
  rd 33 1056 r8 m (fun y11 =>
  nz (wI (1 + y11)) (some (dvI r5 (wI (1 + y11)), m)))))
  else (M_tells x1 x2 x3 m).bind (fun r13 =>
  (M_reckons 0 r13).bind (fun r16 =>
  (if r16.1 < 0 then
  some (0, r16.2)
  else (if 999 < r16.1 then
  some (999, r16.2)
  else some (wI r16.1, r16.2)))))))
def M_isFeared (x1 : Int) (x2 : Int) (m : zM) : Option (Int) :=
  rd 11 16 (wI ((wI (8 * (m 0 13))) + x1)) m (fun y2 =>
  (M_has2 y2 x2).bind (fun r3 =>
  some r3))
def M_isAllowed_b55 (x4 : Int) (a0 : Nat) (n0 : Nat) (s1 : Int) (s2 : Int) (m : zM) : Option (Int × zM) :=
  wr a0 n0 s1 s2 m (fun m1 =>
  wr 38 12 9 x4 m1 (fun m2 =>
  (M_reckons 1 m2).bind (fun r3 =>
  (if r3.1 = 1 then
  some (1, r3.2)
  else some (0, r3.2)))))
def M_isAllowed (x1 : Int) (x2 : Int) (x3 : Int) (x4 : Int) (m : zM) : Option (Int × zM) :=
  (M_isTold 1 m).bind (fun r1 =>
  (if r1 = 0 then
  some (1, m)
  else (M_liked x1 x2 x3 m).bind (fun r5 =>
  (M_tells x1 x2 x3 r5.2).bind (fun r8 =>
  wr 38 12 7 r5.1 r8 (fun m11 =>
  (M_isFeared x3 x2 m11).bind (fun r12 =>
  (if r12 = 0 then
  M_isAllowed_b55 x4 38 12 8 0 m11
  else M_isAllowed_b55 x4 38 12 8 1 m11)))))))
def M_isAwake (x1 : Int) (x2 : Int) (m : zM) : Option (Int) :=
  (M_hourIn x1 m).bind (fun r1 =>
  rd 3 12 (wI ((wI (6 * (m 0 13))) + x2)) m (fun y5 =>
  rd 4 12 (wI ((wI (6 * (m 0 13))) + x2)) m (fun y7 =>
  (M_is r1 y5 y7).bind (fun r8 =>
  some r8))))
def M_isThere (x1 : Int) (x2 : Int) (m : zM) : Option (Int) :=
  (M_hourIn x1 m).bind (fun r1 =>
  rd 9 16 (wI ((wI (8 * (m 0 13))) + x2)) m (fun y5 =>
  rd 10 16 (wI ((wI (8 * (m 0 13))) + x2)) m (fun y7 =>
  (M_is r1 y5 y7).bind (fun r8 =>
  some r8))))
def M_isOpenTo (x1 : Int) (x2 : Int) (x3 : Int) (m : zM) : Option (Int) :=
  (M_isThere x1 x3 m).bind (fun r1 =>
  (if r1 = 0 then
  some 0
  else rd 31 176 (wI ((wI (8 * x1)) + x3)) m (fun y5 =>
  (M_has2 y5 x2).bind (fun r6 =>
  (if r6 = 0 then
  rd 30 176 (wI ((wI (8 * x1)) + x3)) m (fun y10 =>
  (if y10 = (-1) then
  some 1
  else some 0))
  else some 0)))))
def M_wished_B25 (rec : Int → Int → Int → Int → Int → Int → Int → zM → Option (Int × zM)) (x1 : Int) (x2 : Int) (x3 : Int) (x4 : Int) (x5 : Int) (x6 : Int) (x7 : Int) (m : zM) : Option (Int × zM) :=
  rd 7 2 (m 0 13) m (fun y2 =>
  (if x7 < y2 then
  (M_has2 x3 x7).bind (fun r4 =>
  (if r4 = 0 then
  (M_isOpenTo x1 x2 x7 m).bind (fun r8 =>
  (if r8 = 0 then
  rec x1 x2 x3 x4 x5 x6 (wI (x7 + 1)) m
  else (M_liked x1 x2 x7 m).bind (fun r12 =>
  (if x6 < r12.1 then
  (M_isAllowed x1 x2 x7 x4 r12.2).bind (fun r16 =>
  (if r16.1 = 0 then
  rec x1 x2 x3 x4 x5 x6 (wI (x7 + 1)) r16.2
  else (M_liked x1 x2 x7 r16.2).bind (fun r20 =>
  rec x1 x2 x3 x4 x7 r20.1 (wI (x7 + 1)) r20.2)))
  else rec x1 x2 x3 x4 x5 x6 (wI (x7 + 1)) r12.2))))
  else rec x1 x2 x3 x4 x5 x6 (wI (x7 + 1)) m))
  else some (x5, m)))
def M_wished_L25  : Nat → Int → Int → Int → Int → Int → Int → Int → zM → Option (Int × zM)
  | 0, _, _, _, _, _, _, _, _ => none
  | n + 1, x1, x2, x3, x4, x5, x6, x7, m => M_wished_B25 (M_wished_L25 n) x1 x2 x3 x4 x5 x6 x7 m
def M_wished (x1 : Int) (x2 : Int) (x3 : Int) (x4 : Int) (m : zM) : Option (Int × zM) :=
  (M_isAwake x1 x2 m).bind (fun r1 =>
  (if r1 = 0 then
  some ((-1), m)
  else (if x4 = 0 then
  some ((-1), m)
  else M_wished_L25 1000000 x1 x2 x3 x4 ((-1)) 0 0 m)))
def M_writesDown_B18 (k56 : Int → Int → Int → Int → zM → Option (zM)) (rec : Int → Int → Int → Int → Int → zM → Option (zM)) (x1 : Int) (x2 : Int) (x3 : Int) (x4 : Int) (x5 : Int) (m : zM) : Option (zM) :=
  (if x5 < wI ((wI ((wI (300 * x1)) + 300)) - 5) then
  rd 36 6600 (wI (x5 + 5)) m (fun y2 =>
  wr 36 6600 x5 y2 m (fun m3 =>
  rec x1 x2 x3 x4 (wI (x5 + 1)) m3))
  else k56 x1 x2 x3 x4 m)
def M_writesDown_L18 (k56 : Int → Int → Int → Int → zM → Option (zM)) : Nat → Int → Int → Int → Int → Int → zM → Option (zM)
  | 0, _, _, _, _, _, _ => none
  | n + 1, x1, x2, x3, x4, x5, m => M_writesDown_B18 k56 (M_writesDown_L18 k56 n) x1 x2 x3 x4 x5 m
def M_writesDown_b66 (x1 : Int) (x2 : Int) (x3 : Int) (x4 : Int) (m : zM) : Option (zM) :=
  rd 35 22 x1 m (fun y1 =>
  lt (wI (5 * (wI ((wI (60 * x1)) + y1)))) (fun v2 =>
  rd 27 22 x1 m (fun y3 =>
  wr 36 6600 v2 (dvI y3 24) m (fun m4 =>
  (M_hourIn x1 m4).bind (fun r5 =>
  wr 36 6600 (wI (v2 + 1)) r5 m4 (fun m8 =>
  wr 36 6600 (wI (v2 + 2)) x2 m8 (fun m9 =>
  wr 36 6600 (wI (v2 + 3)) x3 m9 (fun m10 =>
  wr 36 6600 (wI (v2 + 4)) x4 m10 (fun m11 =>
  rd 35 22 x1 m11 (fun y12 =>
  wr 35 22 x1 (wI (y12 + 1)) m11 (fun m13 =>
  some m13)))))))))))
def M_writesDown (x1 : Int) (x2 : Int) (x3 : Int) (x4 : Int) (m : zM) : Option (zM) :=
  rd 35 22 x1 m (fun y1 =>
  (if y1 = 60 then
  lt (wI (300 * x1)) (fun v3 =>
  M_writesDown_L18 (fun x1_4 x2_4 x3_4 x4_4 m5 => rd 35 22 x1_4 m5 (fun y6 =>
  wr 35 22 x1_4 (wI (y6 - 1)) m5 (fun m7 =>
  M_writesDown_b66 x1_4 x2_4 x3_4 x4_4 m7))) 1000000 x1 x2 x3 x4 v3 m)
  else M_writesDown_b66 x1 x2 x3 x4 m))
def M_comes_b121 (x1 : Int) (x2 : Int) (x3 : Int) (x4 : Int) (a0 : Nat) (n0 : Nat) (s1 : Int) (s2 : Int) (m : zM) : Option (Int × zM) :=
  wr a0 n0 s1 s2 m (fun m1 =>
  (M_liked x1 x2 x3 m1).bind (fun r2 =>
  (M_toldOf 1 r2.2).bind (fun r5 =>
  (if r2.1 < r5 then
  rd 31 176 (wI ((wI (8 * x1)) + x3)) r2.2 (fun y9 =>
  wr 31 176 (wI ((wI (8 * x1)) + x3)) (orI y9 (slI 1 x2)) r2.2 (fun m10 =>
  some (2, m10)))
  else rd 34 1056 x4 r2.2 (fun y11 =>
  (M_toldOf 2 r2.2).bind (fun r12 =>
  (if y11 < r12 then
  some (1, r2.2)
  else wr 30 176 (wI ((wI (8 * x1)) + x3)) x2 r2.2 (fun m16 =>
  some (3, m16)))))))))
def M_comes_b88 (x1 : Int) (x2 : Int) (x3 : Int) (x4 : Int) (a0 : Nat) (n0 : Nat) (s1 : Int) (s2 : Int) (m : zM) : Option (Int × zM) :=
  wr a0 n0 s1 s2 m (fun m1 =>
  rd 34 1056 x4 m1 (fun y2 =>
  (if y2 < 99 then
  rd 34 1056 x4 m1 (fun y4 =>
  M_comes_b121 x1 x2 x3 x4 34 1056 x4 (wI (y4 + 1)) m1)
  else M_comes_b121 x1 x2 x3 x4 34 1056 x4 99 m1)))
def M_comes (x1 : Int) (x2 : Int) (x3 : Int) (m : zM) : Option (Int × zM) :=
  (M_isFeared x3 x2 m).bind (fun r1 =>
  (if r1 = 0 then
  (M_pair x1 x2 x3).bind (fun r5 =>
  rd 33 1056 r5 m (fun y8 =>
  (if y8 < 99 then
  rd 33 1056 r5 m (fun y10 =>
  M_comes_b88 x1 x2 x3 r5 33 1056 r5 (wI (y10 + 1)) m)
  else M_comes_b88 x1 x2 x3 r5 33 1056 r5 99 m)))
  else rd 28 22 x1 m (fun y11 =>
  (M_toldOf 3 m).bind (fun r12 =>
  lt (wI (y11 + r12)) (fun v15 =>
  (if 9999 < v15 then
  wr 28 22 x1 9999 m (fun m17 =>
  some (0, m17))
  else wr 28 22 x1 v15 m (fun m18 =>
  some (0, m18))))))))
def M_asking_B7 (rec : Int → Int → Int → Int → zM → Option (Int × zM)) (x1 : Int) (x2 : Int) (x3 : Int) (x4 : Int) (m : zM) : Option (Int × zM) :=
  rd 2 2 (m 0 13) m (fun y2 =>
  (if x4 < y2 then
  (M_toldOf 0 m).bind (fun r4 =>
  (M_wished x1 x4 x2 (wI (r4 - x3)) m).bind (fun r7 =>
  wr 39 6 x4 r7.1 r7.2 (fun m10 =>
  (if r7.1 = (-1) then
  rec x1 x2 x3 (wI (x4 + 1)) m10
  else lt (orI x2 (slI 1 r7.1)) (fun v12 =>
  (M_comes x1 x4 r7.1 m10).bind (fun r13 =>
  wr 40 6 x4 r13.1 r13.2 (fun m16 =>
  rd 40 6 x4 m16 (fun y17 =>
  (M_writesDown x1 x4 r7.1 y17 m16).bind (fun r18 =>
  rec x1 v12 (wI (x3 + 1)) (wI (x4 + 1)) r18)))))))))
  else some (x3, m)))
def M_asking_L7  : Nat → Int → Int → Int → Int → zM → Option (Int × zM)
  | 0, _, _, _, _, _ => none
  | n + 1, x1, x2, x3, x4, m => M_asking_B7 (M_asking_L7 n) x1 x2 x3 x4 m
def M_asking (x1 : Int) (m : zM) : Option (Int × zM) :=
  M_asking_L7 1000000 x1 0 0 0 m
def M_isOver (x1 : Int) (m : zM) : Option (zM) :=
  rd 27 22 x1 m (fun y1 =>
  wr 27 22 x1 (wI (y1 + 1)) m (fun m2 =>
  (M_hourIn x1 m2).bind (fun r3 =>
  (if r3 = 0 then
  (M_dawns x1 m2).bind (fun r7 =>
  some r7)
  else some m2))))
def M_isBeast (x1 : Int) (m : zM) : Option (Int) :=
  (if x1 < 0 then
  some 0
  else rd 2 2 (m 0 13) m (fun y3 =>
  (if x1 < y3 then
  some 1
  else some 0)))
def M_isGuest (x1 : Int) (m : zM) : Option (Int) :=
  (if x1 < 0 then
  some 0
  else rd 7 2 (m 0 13) m (fun y3 =>
  (if x1 < y3 then
  some 1
  else some 0)))
def M_has_B115 (rec : Int → Int → Option (Int)) (x2 : Int) (x3 : Int) (m : zM) : Option (Int) :=
  rd 7 2 (m 0 13) m (fun y2 =>
  (if x3 < y2 then
  (M_isThere 0 x3 m).bind (fun r4 =>
  (if r4 = 0 then
  lt (wI (x2 + 0)) (fun v8 =>
  rec v8 (wI (x3 + 1)))
  else lt (wI (x2 + 1)) (fun v9 =>
  rec v9 (wI (x3 + 1)))))
  else some x2))
def M_has_L115 (m : zM) : Nat → Int → Int → Option (Int)
  | 0, _, _ => none
  | n + 1, x2, x3 => M_has_B115 (M_has_L115 m n) x2 x3 m
def M_has_B155 (rec : Int → Int → Option (Int)) (x2 : Int) (x3 : Int) (m : zM) : Option (Int) :=
  rd 7 2 (m 0 13) m (fun y2 =>
  (if x3 < y2 then
  rd 30 176 x3 m (fun y4 =>
  (if y4 = (-1) then
  lt (wI (x2 + 0)) (fun v6 =>
  rec v6 (wI (x3 + 1)))
  else lt (wI (x2 + 1)) (fun v7 =>
  rec v7 (wI (x3 + 1)))))
  else some x2))
def M_has_L155 (m : zM) : Nat → Int → Int → Option (Int)
  | 0, _, _ => none
  | n + 1, x2, x3 => M_has_B155 (M_has_L155 m n) x2 x3 m
def M_has (x1 : Int) (m : zM) : Option (Int) :=
  (if x1 = 0 then rd 2 2 (m 0 13) m (fun y14 =>
  some y14)
  else if x1 = 1 then rd 7 2 (m 0 13) m (fun y16 =>
  some y16)
  else if x1 = 2 then rd 27 22 0 m (fun y17 =>
  some (dvI y17 24))
  else if x1 = 3 then (M_hourIn 0 m).bind (fun r18 =>
  some r18)
  else if x1 = 4 then (M_toldOf 0 m).bind (fun r21 =>
  some r21)
  else if x1 = 5 then rd 28 22 0 m (fun y24 =>
  some y24)
  else if x1 = 6 then M_has_L115 m 1000000 0 0
  else if x1 = 7 then M_has_L155 m 1000000 0 0
  else if x1 = 8 then rd 35 22 0 m (fun y25 =>
  some y25)
  else if x1 = 9 then some (m 0 57)
  else if x1 = 10 then some (wI (m 0 58))
  else if x1 = 11 then some (m 0 65)
  else some ((-1)))
def M_letter_B58 (k78 : Int → Int → Int → Option (Int)) (rec : Int → Int → Int → Int → Option (Int)) (x3 : Int) (x4 : Int) (x6 : Int) (x7 : Int) (m : zM) : Option (Int) :=
  (if 0 < x7 then
  rec x3 x4 (wI (x6 + 1)) (srL x7 8)
  else k78 x3 x4 x6)
def M_letter_L58 (k78 : Int → Int → Int → Option (Int)) (m : zM) : Nat → Int → Int → Int → Int → Option (Int)
  | 0, _, _, _, _ => none
  | n + 1, x3, x4, x6, x7 => M_letter_B58 k78 (M_letter_L58 k78 m n) x3 x4 x6 x7 m
def M_letter (x1 : Int) (x2 : Int) (x3 : Int) (m : zM) : Option (Int) :=
  (M_is x1 0 1).bind (fun r1 =>
  (if r1 = 0 then
  some ((-1))
  else (M_manyOf (m 0 13) x1 m).bind (fun r6 =>
  (M_is x2 0 (wI (r6 - 1))).bind (fun r9 =>
  (if r9 = 0 then
  some ((-1))
  else (M_is x3 0 5).bind (fun r13 =>
  (if r13 = 0 then
  some ((-1))
  else (M_nameOf (m 0 13) x1 x2 m).bind (fun r18 =>
  M_letter_L58 (fun x3_21 x4_21 x6_21 => (if x3_21 < x6_21 then
  some (wI ((wI ((wI (anL (srL x4_21 (wI (8 * (wI ((wI (x6_21 - 1)) - x3_21))))) 255)) - 97)) + 1))
  else some 0)) m 1000000 x3 r18 0 r18))))))))
def M_beast_B128 (rec : Int → Int → Option (Int)) (x1 : Int) (x3 : Int) (m : zM) : Option (Int) :=
  rd 7 2 (m 0 13) m (fun y2 =>
  (if x3 < y2 then
  rd 30 176 x3 m (fun y4 =>
  (if y4 = x1 then
  some x3
  else rec x1 (wI (x3 + 1))))
  else some ((-1))))
def M_beast_L128 (m : zM) : Nat → Int → Int → Option (Int)
  | 0, _, _ => none
  | n + 1, x1, x3 => M_beast_B128 (M_beast_L128 m n) x1 x3 m
def M_beast (x1 : Int) (x2 : Int) (m : zM) : Option (Int) :=
  (M_isBeast x1 m).bind (fun r1 =>
  (if r1 = 0 then
  some ((-1))
  else (if x2 = 0 then rd 3 12 (wI ((wI (6 * (m 0 13))) + x1)) m (fun y14 =>
  some y14)
  else if x2 = 1 then rd 4 12 (wI ((wI (6 * (m 0 13))) + x1)) m (fun y16 =>
  some y16)
  else if x2 = 2 then rd 5 12 (wI ((wI (6 * (m 0 13))) + x1)) m (fun y18 =>
  some y18)
  else if x2 = 3 then (M_tasteIn 0 x1 (wI (x2 - 3)) m).bind (fun r19 =>
  some r19)
  else if x2 = 4 then (M_tasteIn 0 x1 (wI (x2 - 3)) m).bind (fun r22 =>
  some r22)
  else if x2 = 5 then (M_tasteIn 0 x1 (wI (x2 - 3)) m).bind (fun r25 =>
  some r25)
  else if x2 = 6 then (M_isAwake 0 x1 m).bind (fun r28 =>
  (if r28 = 0 then
  some 0
  else some 1))
  else if x2 = 7 then M_beast_L128 m 1000000 x1 0
  else some ((-1)))))
def M_guest (x1 : Int) (x2 : Int) (m : zM) : Option (Int) :=
  (M_isGuest x1 m).bind (fun r1 =>
  (if r1 = 0 then
  some ((-1))
  else (if x2 = 0 then (M_look 0 x1 x2 m).bind (fun r13 =>
  some r13)
  else if x2 = 1 then (M_look 0 x1 x2 m).bind (fun r16 =>
  some r16)
  else if x2 = 2 then (M_look 0 x1 x2 m).bind (fun r19 =>
  some r19)
  else if x2 = 3 then rd 9 16 (wI ((wI (8 * (m 0 13))) + x1)) m (fun y23 =>
  some y23)
  else if x2 = 4 then rd 10 16 (wI ((wI (8 * (m 0 13))) + x1)) m (fun y25 =>
  some y25)
  else if x2 = 5 then rd 11 16 (wI ((wI (8 * (m 0 13))) + x1)) m (fun y27 =>
  some y27)
  else if x2 = 6 then rd 31 176 x1 m (fun y28 =>
  some y28)
  else if x2 = 7 then rd 30 176 x1 m (fun y29 =>
  some y29)
  else some ((-1)))))
def M_between (x1 : Int) (x2 : Int) (x3 : Int) (m : zM) : Option (Int × zM) :=
  (M_isBeast x1 m).bind (fun r1 =>
  (if r1 = 0 then
  some ((-1), m)
  else (M_isGuest x2 m).bind (fun r5 =>
  (if r5 = 0 then
  some ((-1), m)
  else (if x3 = 0 then (M_suiting 0 x1 x2 m).bind (fun r13 =>
  some (r13, m))
  else if x3 = 1 then (M_liked 0 x1 x2 m).bind (fun r16 =>
  some (r16.1, r16.2))
  else if x3 = 2 then (M_pair 0 x1 x2).bind (fun r19 =>
  rd 33 1056 r19 m (fun y22 =>
  some (y22, m)))
  else if x3 = 3 then (M_pair 0 x1 x2).bind (fun r23 =>
  rd 34 1056 r23 m (fun y26 =>
  some (y26, m)))
  else some ((-1), m))))))
def M_isAhead (x1 : Int) (x2 : Int) (x3 : Int) (m : zM) : Option (Int) :=
  (M_is x1 x2 x3).bind (fun r1 =>
  (if r1 = 0 then
  some 0
  else rd 27 22 0 m (fun y5 =>
  (if wI (23999 - x1) < y5 then
  some 0
  else some 1))))
def M_asks_B29 (rec : Int → Int → Int → zM → Option (Int × zM)) (x1 : Int) (x2 : Int) (x3 : Int) (m : zM) : Option (Int × zM) :=
  (if x3 < x2 then
  (M_asking 1 m).bind (fun r2 =>
  (M_isOver 1 r2.2).bind (fun r5 =>
  rec x1 x2 (wI (x3 + 1)) r5))
  else (M_asking 1 m).bind (fun r8 =>
  rd 39 6 x1 r8.2 (fun y11 =>
  some (y11, r8.2))))
def M_asks_L29  : Nat → Int → Int → Int → zM → Option (Int × zM)
  | 0, _, _, _, _ => none
  | n + 1, x1, x2, x3, m => M_asks_B29 (M_asks_L29 n) x1 x2 x3 m
def M_asks (x1 : Int) (x2 : Int) (m : zM) : Option (Int × zM) :=
  (M_isBeast x1 m).bind (fun r1 =>
  (if r1 = 0 then
  some ((-1), m)
  else (M_isAhead x2 0 99 m).bind (fun r5 =>
  (if r5 = 0 then
  some ((-1), m)
  else (M_copies 1 0 m).bind (fun r9 =>
  M_asks_L29 1000000 x1 x2 0 r9)))))
def M_alone_B38 (k70 : Int → Int → Int → zM → Option (Int × zM)) (k86 : Int → Int → zM → Option (Int × zM)) (rec : Int → Int → Int → zM → Option (Int × zM)) (x1 : Int) (x2 : Int) (x3 : Int) (m : zM) : Option (Int × zM) :=
  rd 2 2 (m 0 13) m (fun y2 =>
  (if x3 < y2 then
  (M_isAwake 1 x3 m).bind (fun r4 =>
  (if r4 = 0 then
  rec x1 x2 (wI (x3 + 1)) m
  else rd 39 6 x3 m (fun y8 =>
  (if y8 = (-1) then
  k70 x1 x2 x3 m
  else rec x1 x2 (wI (x3 + 1)) m))))
  else k86 x1 x2 m))
def M_alone_L38 (k70 : Int → Int → Int → zM → Option (Int × zM)) (k86 : Int → Int → zM → Option (Int × zM)) : Nat → Int → Int → Int → zM → Option (Int × zM)
  | 0, _, _, _, _ => none
  | n + 1, x1, x2, x3, m => M_alone_B38 k70 k86 (M_alone_L38 k70 k86 n) x1 x2 x3 m
def M_alone_B19 (k70 : Int → Int → Int → zM → Option (Int × zM)) (rec : Int → Int → zM → Option (Int × zM)) (x1 : Int) (x2 : Int) (m : zM) : Option (Int × zM) :=
  (M_isAhead x2 0 99 m).bind (fun r1 =>
  (if r1 = 0 then
  some ((-1), m)
  else (M_asking 1 m).bind (fun r5 =>
  M_alone_L38 (fun x1_8 x2_8 x3_8 m9 => k70 x1_8 x2_8 x3_8 m9) (fun x1_10 x2_10 m11 => (M_isOver 1 m11).bind (fun r12 =>
  rec x1_10 (wI (x2_10 + 1)) r12)) 1000000 x1 x2 0 r5.2)))
def M_alone_L19 (k70 : Int → Int → Int → zM → Option (Int × zM)) : Nat → Int → Int → zM → Option (Int × zM)
  | 0, _, _, _ => none
  | n + 1, x1, x2, m => M_alone_B19 k70 (M_alone_L19 k70 n) x1 x2 m
def M_alone (x1 : Int) (m : zM) : Option (Int × zM) :=
  (M_is x1 0 1).bind (fun r1 =>
  (if r1 = 0 then
  some ((-1), m)
  else (M_copies 1 0 m).bind (fun r5 =>
  M_alone_L19 (fun x1_8 x2_8 x3_8 m9 => (if x1_8 = 0 then
  some (x2_8, m9)
  else some (x3_8, m9))) 1000000 x1 0 r5)))
def M_bits_B4 (rec : Int → Int → Option (Int)) (x1 : Int) (x2 : Int) : Option (Int) :=
  (if x2 = 0 then
  some x1
  else lt (anI x2 (wI (x2 - 1))) (fun v2 =>
  rec (wI (x1 + 1)) v2))
def M_bits_L4  : Nat → Int → Int → Option (Int)
  | 0, _, _ => none
  | n + 1, x1, x2 => M_bits_B4 (M_bits_L4 n) x1 x2
def M_bits (x0 : Int) : Option (Int) :=
  M_bits_L4 1000000 0 x0
def M_isBest (x1 : Int) (x2 : Int) (x3 : Int) (m : zM) : Option (Int) :=
  (M_has2 x3 x2).bind (fun r1 =>
  (if r1 = 0 then
  rd 42 48 (wI ((wI (8 * x1)) + x2)) m (fun y5 =>
  (if y5 = 0 then
  some 0
  else (M_bits x3).bind (fun r7 =>
  (M_toldOf 0 m).bind (fun r10 =>
  (if r7 < r10 then
  rd 42 48 (wI ((wI (8 * x1)) + x2)) m (fun y14 =>
  rd 41 1792 (wI ((wI (256 * (wI (x1 + 1)))) + (orI x3 (slI 1 x2)))) m (fun y15 =>
  rd 41 1792 (wI ((wI (256 * x1)) + x3)) m (fun y16 =>
  (if wI (y14 + y15) = y16 then
  some 1
  else some 0))))
  else some 0)))))
  else some 0))
def M_bring_B35 (k109 : Int → Int → Int → zM → Option (Int × zM)) (rec : Int → Int → Int → Int → zM → Option (Int × zM)) (x1 : Int) (x2 : Int) (x3 : Int) (x4 : Int) (m : zM) : Option (Int × zM) :=
  rd 7 2 (m 0 13) m (fun y2 =>
  (if x4 < y2 then
  (M_isAwake 0 x3 m).bind (fun r4 =>
  (if r4 = 0 then
  wr 42 48 (wI ((wI (8 * x3)) + x4)) 0 m (fun m8 =>
  rec x1 x2 x3 (wI (x4 + 1)) m8)
  else (M_isOpenTo 0 x3 x4 m).bind (fun r9 =>
  (if r9 = 0 then
  wr 42 48 (wI ((wI (8 * x3)) + x4)) 0 m (fun m13 =>
  rec x1 x2 x3 (wI (x4 + 1)) m13)
  else (M_isFeared x4 x3 m).bind (fun r14 =>
  (if r14 = 0 then
  (M_liked 0 x3 x4 m).bind (fun r18 =>
  wr 42 48 (wI ((wI (8 * x3)) + x4)) r18.1 r18.2 (fun m21 =>
  rec x1 x2 x3 (wI (x4 + 1)) m21))
  else wr 42 48 (wI ((wI (8 * x3)) + x4)) 0 m (fun m22 =>
  rec x1 x2 x3 (wI (x4 + 1)) m22)))))))
  else k109 x1 x2 x3 m))
def M_bring_L35 (k109 : Int → Int → Int → zM → Option (Int × zM)) : Nat → Int → Int → Int → Int → zM → Option (Int × zM)
  | 0, _, _, _, _, _ => none
  | n + 1, x1, x2, x3, x4, m => M_bring_B35 k109 (M_bring_L35 k109 n) x1 x2 x3 x4 m
def M_bring_B27 (k115 : Int → Int → zM → Option (Int × zM)) (rec : Int → Int → Int → zM → Option (Int × zM)) (x1 : Int) (x2 : Int) (x3 : Int) (m : zM) : Option (Int × zM) :=
  (if x3 < x2 then
  M_bring_L35 (fun x1_2 x2_2 x3_2 m3 => rec x1_2 x2_2 (wI (x3_2 + 1)) m3) 1000000 x1 x2 x3 0 m
  else k115 x1 x2 m)
def M_bring_L27 (k115 : Int → Int → zM → Option (Int × zM)) : Nat → Int → Int → Int → zM → Option (Int × zM)
  | 0, _, _, _, _ => none
  | n + 1, x1, x2, x3, m => M_bring_B27 k115 (M_bring_L27 k115 n) x1 x2 x3 m
def M_bring_B117 (k143 : Int → Int → zM → Option (Int × zM)) (rec : Int → Int → Int → zM → Option (Int × zM)) (x1 : Int) (x2 : Int) (x3 : Int) (m : zM) : Option (Int × zM) :=
  (if x3 < 256 then
  wr 41 1792 (wI ((wI (256 * x2)) + x3)) 0 m (fun m2 =>
  rec x1 x2 (wI (x3 + 1)) m2)
  else k143 x1 x2 m)
def M_bring_L117 (k143 : Int → Int → zM → Option (Int × zM)) : Nat → Int → Int → Int → zM → Option (Int × zM)
  | 0, _, _, _, _ => none
  | n + 1, x1, x2, x3, m => M_bring_B117 k143 (M_bring_L117 k143 n) x1 x2 x3 m
def M_bring_B182 (k294 : Int → Int → Int → Int → zM → Option (Int × zM)) (rec : Int → Int → Int → Int → Int → zM → Option (Int × zM)) (x1 : Int) (x3 : Int) (x4 : Int) (x5 : Int) (x6 : Int) (m : zM) : Option (Int × zM) :=
  rd 7 2 (m 0 13) m (fun y2 =>
  (if x6 < y2 then
  (M_bits x4).bind (fun r4 =>
  (M_toldOf 0 m).bind (fun r7 =>
  (if r4 < r7 then
  (M_has2 x4 x6).bind (fun r11 =>
  (if r11 = 0 then
  rd 42 48 (wI ((wI (8 * x3)) + x6)) m (fun y15 =>
  (if y15 = 0 then
  rec x1 x3 x4 x5 (wI (x6 + 1)) m
  else rd 42 48 (wI ((wI (8 * x3)) + x6)) m (fun y17 =>
  rd 41 1792 (wI ((wI (256 * (wI (x3 + 1)))) + (orI x4 (slI 1 x6)))) m (fun y18 =>
  lt (wI (y17 + y18)) (fun v19 =>
  (if x5 < v19 then
  rec x1 x3 x4 v19 (wI (x6 + 1)) m
  else rec x1 x3 x4 x5 (wI (x6 + 1)) m))))))
  else rec x1 x3 x4 x5 (wI (x6 + 1)) m))
  else k294 x1 x3 x4 x5 m)))
  else k294 x1 x3 x4 x5 m))
def M_bring_L182 (k294 : Int → Int → Int → Int → zM → Option (Int × zM)) : Nat → Int → Int → Int → Int → Int → zM → Option (Int × zM)
  | 0, _, _, _, _, _, _ => none
  | n + 1, x1, x3, x4, x5, x6, m => M_bring_B182 k294 (M_bring_L182 k294 n) x1 x3 x4 x5 x6 m
def M_bring_b294 (k315 : Int → Int → zM → Option (Int × zM)) (rec : Int → Int → Int → zM → Option (Int × zM)) (x1 : Int) (x3 : Int) (x4 : Int) (x5 : Int) (m : zM) : Option (Int × zM) :=
  wr 41 1792 (wI ((wI (256 * x3)) + x4)) x5 m (fun m1 =>
  rec x1 x3 (wI (x4 + 1)) m1)
def M_bring_B154 (k315 : Int → Int → zM → Option (Int × zM)) (rec : Int → Int → Int → zM → Option (Int × zM)) (x1 : Int) (x3 : Int) (x4 : Int) (m : zM) : Option (Int × zM) :=
  (if x4 < 256 then
  rd 41 1792 (wI ((wI (256 * (wI (x3 + 1)))) + x4)) m (fun y2 =>
  M_bring_L182 (fun x1_3 x3_3 x4_3 x5_3 m4 => M_bring_b294 k315 rec x1_3 x3_3 x4_3 x5_3 m4) 1000000 x1 x3 x4 y2 0 m)
  else k315 x1 x3 m)
def M_bring_L154 (k315 : Int → Int → zM → Option (Int × zM)) : Nat → Int → Int → Int → zM → Option (Int × zM)
  | 0, _, _, _, _ => none
  | n + 1, x1, x3, x4, m => M_bring_B154 k315 (M_bring_L154 k315 n) x1 x3 x4 m
def M_bring_B147 (k321 : Int → zM → Option (Int × zM)) (rec : Int → Int → zM → Option (Int × zM)) (x1 : Int) (x3 : Int) (m : zM) : Option (Int × zM) :=
  (if x3 < 0 then
  k321 x1 m
  else M_bring_L154 (fun x1_2 x3_2 m3 => rec x1_2 (wI (x3_2 + (-1))) m3) 1000000 x1 x3 0 m)
def M_bring_L147 (k321 : Int → zM → Option (Int × zM)) : Nat → Int → Int → zM → Option (Int × zM)
  | 0, _, _, _ => none
  | n + 1, x1, x3, m => M_bring_B147 k321 (M_bring_L147 k321 n) x1 x3 m
def M_bring_B347 (k379 : Int → Int → Int → Int → zM → Option (Int × zM)) (rec : Int → Int → Int → Int → zM → Option (Int × zM)) (x1 : Int) (x3 : Int) (x4 : Int) (x5 : Int) (m : zM) : Option (Int × zM) :=
  rd 7 2 (m 0 13) m (fun y2 =>
  (if x5 < y2 then
  (M_isBest x4 x5 x3 m).bind (fun r4 =>
  (if r4 = 0 then
  rec x1 x3 x4 (wI (x5 + 1)) m
  else k379 x1 x3 x4 x5 m))
  else k379 x1 x3 x4 x5 m))
def M_bring_L347 (k379 : Int → Int → Int → Int → zM → Option (Int × zM)) : Nat → Int → Int → Int → Int → zM → Option (Int × zM)
  | 0, _, _, _, _, _ => none
  | n + 1, x1, x3, x4, x5, m => M_bring_B347 k379 (M_bring_L347 k379 n) x1 x3 x4 x5 m
def M_bring_b379 (k385 : Int → zM → Option (Int × zM)) (rec : Int → Int → Int → zM → Option (Int × zM)) (x1 : Int) (x3 : Int) (x4 : Int) (x5 : Int) (m : zM) : Option (Int × zM) :=
  (if x4 = x1 then
  k385 x5 m
  else rd 7 2 (m 0 13) m (fun y3 =>
  (if x5 = y3 then
  rec x1 (orI x3 0) (wI (x4 + 1)) m
  else lt (orI x3 (slI 1 x5)) (fun v5 =>
  rec x1 v5 (wI (x4 + 1)) m))))
def M_bring_B338 (k385 : Int → zM → Option (Int × zM)) (rec : Int → Int → Int → zM → Option (Int × zM)) (x1 : Int) (x3 : Int) (x4 : Int) (m : zM) : Option (Int × zM) :=
  (if x1 < x4 then
  some ((-1), m)
  else M_bring_L347 (fun x1_2 x3_2 x4_2 x5_2 m3 => M_bring_b379 k385 rec x1_2 x3_2 x4_2 x5_2 m3) 1000000 x1 x3 x4 0 m)
def M_bring_L338 (k385 : Int → zM → Option (Int × zM)) : Nat → Int → Int → Int → zM → Option (Int × zM)
  | 0, _, _, _, _ => none
  | n + 1, x1, x3, x4, m => M_bring_B338 k385 (M_bring_L338 k385 n) x1 x3 x4 m
def M_bring_b15 (x1 : Int) (m : zM) : Option (Int × zM) :=
  rd 2 2 (m 0 13) m (fun y2 =>
  M_bring_L27 (fun x1_3 x2_3 m4 => M_bring_L117 (fun x1_5 x2_5 m6 => lt (wI (x2_5 - 1)) (fun v7 =>
  M_bring_L147 (fun x1_8 m9 => (if x1_8 = (-1) then
  rd 41 1792 0 m9 (fun y11 =>
  some (y11, m9))
  else M_bring_L338 (fun x5_12 m13 => rd 7 2 (m13 0 13) m13 (fun y15 =>
  (if x5_12 = y15 then
  some ((-1), m13)
  else some (x5_12, m13)))) 1000000 x1_8 0 0 m9)) 1000000 x1_5 v7 m6)) 1000000 x1_3 x2_3 0 m4) 1000000 x1 y2 0 m)
def M_bring (x1 : Int) (m : zM) : Option (Int × zM) :=
  (if x1 = (-1) then
  M_bring_b15 x1 m
  else (M_isBeast x1 m).bind (fun r2 =>
  (if r2 = 0 then
  some ((-1), m)
  else M_bring_b15 x1 m)))
def M_off (x0 : Int) (x1 : Int) : Option (Int) :=
  (if x0 < x1 then
  some (wI (x1 - x0))
  else some (wI (x0 - x1)))
def M_digit (x0 : Int) (x1 : Int) : Option (Int) :=
  (if x1 = 0 then
  some (dvI x0 100)
  else (if x1 = 1 then
  some (rmI (dvI x0 10) 10)
  else some (rmI x0 10)))
def M_dress_B52 (k87 : Int → Int → Int → Int → Int → Int → Int → zM → Option (Int × zM)) (rec : Int → Int → Int → Int → Int → Int → Int → Int → zM → Option (Int × zM)) (x1 : Int) (x2 : Int) (x3 : Int) (x4 : Int) (x5 : Int) (x6 : Int) (x7 : Int) (x8 : Int) (m : zM) : Option (Int × zM) :=
  (if x8 < 3 then
  (M_digit x6 x8).bind (fun r2 =>
  (M_look 0 x1 x8 m).bind (fun r5 =>
  (M_off r2 r5).bind (fun r8 =>
  lt (wI (x7 + r8)) (fun v11 =>
  rec x1 x2 x3 x4 x5 x6 v11 (wI (x8 + 1)) m))))
  else k87 x1 x2 x3 x4 x5 x6 x7 m)
def M_dress_L52 (k87 : Int → Int → Int → Int → Int → Int → Int → zM → Option (Int × zM)) : Nat → Int → Int → Int → Int → Int → Int → Int → Int → zM → Option (Int × zM)
  | 0, _, _, _, _, _, _, _, _, _ => none
  | n + 1, x1, x2, x3, x4, x5, x6, x7, x8, m => M_dress_B52 k87 (M_dress_L52 k87 n) x1 x2 x3 x4 x5 x6 x7 x8 m
def M_dress_B106 (k139 : Int → Int → Int → Int → Int → Int → Int → zM → Option (Int × zM)) (rec : Int → Int → Int → Int → Int → Int → Int → Int → zM → Option (Int × zM)) (x1 : Int) (x2 : Int) (x3 : Int) (x4 : Int) (x5 : Int) (x6 : Int) (x7 : Int) (x8 : Int) (m : zM) : Option (Int × zM) :=
  (if x8 < 3 then
  (M_digit x6 x8).bind (fun r2 =>
  wr 29 528 (wI ((wI (24 + (wI (3 * x1)))) + x8)) r2 m (fun m5 =>
  rec x1 x2 x3 x4 x5 x6 x7 (wI (x8 + 1)) m5))
  else k139 x1 x2 x3 x4 x5 x6 x7 m)
def M_dress_L106 (k139 : Int → Int → Int → Int → Int → Int → Int → zM → Option (Int × zM)) : Nat → Int → Int → Int → Int → Int → Int → Int → Int → zM → Option (Int × zM)
  | 0, _, _, _, _, _, _, _, _, _ => none
  | n + 1, x1, x2, x3, x4, x5, x6, x7, x8, m => M_dress_B106 k139 (M_dress_L106 k139 n) x1 x2 x3 x4 x5 x6 x7 x8 m
def M_dress_B38 (k172 : Int → Int → Int → zM → Option (Int × zM)) (rec : Int → Int → Int → Int → Int → Int → zM → Option (Int × zM)) (x1 : Int) (x2 : Int) (x3 : Int) (x4 : Int) (x5 : Int) (x6 : Int) (m : zM) : Option (Int × zM) :=
  (if x6 < 1000 then
  M_dress_L52 (fun x1_2 x2_2 x3_2 x4_2 x5_2 x6_2 x7_2 m3 => (if x7_2 < x5_2 then
  (M_copies 1 0 m3).bind (fun r5 =>
  M_dress_L106 (fun x1_8 x2_8 x3_8 x4_8 x5_8 x6_8 x7_8 m9 => (M_asking 1 m9).bind (fun r10 =>
  rd 39 6 x2_8 r10.2 (fun y13 =>
  (if y13 = x1_8 then
  rec x1_8 x2_8 x3_8 x6_8 x7_8 (wI (x6_8 + 1)) r10.2
  else rec x1_8 x2_8 x3_8 x4_8 x5_8 (wI (x6_8 + 1)) r10.2)))) 1000000 x1_2 x2_2 x3_2 x4_2 x5_2 x6_2 x7_2 0 r5)
  else rec x1_2 x2_2 x3_2 x4_2 x5_2 (wI (x6_2 + 1)) m3)) 1000000 x1 x2 x3 x4 x5 x6 0 0 m
  else k172 x3 x4 x5 m)
def M_dress_L38 (k172 : Int → Int → Int → zM → Option (Int × zM)) : Nat → Int → Int → Int → Int → Int → Int → zM → Option (Int × zM)
  | 0, _, _, _, _, _, _, _ => none
  | n + 1, x1, x2, x3, x4, x5, x6, m => M_dress_B38 k172 (M_dress_L38 k172 n) x1 x2 x3 x4 x5 x6 m
def M_dress (x1 : Int) (x2 : Int) (x3 : Int) (m : zM) : Option (Int × zM) :=
  (M_isGuest x1 m).bind (fun r1 =>
  (if r1 = 0 then
  some ((-1), m)
  else (M_isBeast x2 m).bind (fun r5 =>
  (if r5 = 0 then
  some ((-1), m)
  else (M_is x3 0 3).bind (fun r9 =>
  (if r9 = 0 then
  some ((-1), m)
  else M_dress_L38 (fun x3_13 x4_13 x5_13 m14 => (if x4_13 = (-1) then
  some ((-1), m14)
  else (if x3_13 = 0 then
  some (x5_13, m14)
  else (M_digit x4_13 (wI (x3_13 - 1))).bind (fun r17 =>
  some (r17, m14))))) 1000000 x1 x2 x3 ((-1)) 100000000 0 m))))))
def M_tell_B34 (k100 : Int → Int → zM → Option (Int × zM)) (rec : Int → Int → Int → zM → Option (Int × zM)) (x1 : Int) (x2 : Int) (x3 : Int) (m : zM) : Option (Int × zM) :=
  (if x3 < x1 then
  (if x2 = 0 then
  k100 x1 x2 m
  else rd 1 1800 x3 m (fun y3 =>
  (M_isGuest y3 m).bind (fun r4 =>
  (if r4 = 0 then
  rec x1 0 (wI (x3 + 2)) m
  else rd 1 1800 (wI (x3 + 1)) m (fun y8 =>
  (M_isGuest y8 m).bind (fun r9 =>
  (if r9 = 0 then
  rec x1 0 (wI (x3 + 2)) m
  else rd 1 1800 x3 m (fun y13 =>
  rd 1 1800 (wI (x3 + 1)) m (fun y14 =>
  (if y13 = y14 then
  rec x1 0 (wI (x3 + 2)) m
  else rec x1 1 (wI (x3 + 2)) m))))))))))
  else k100 x1 x2 m)
def M_tell_L34 (k100 : Int → Int → zM → Option (Int × zM)) : Nat → Int → Int → Int → zM → Option (Int × zM)
  | 0, _, _, _, _ => none
  | n + 1, x1, x2, x3, m => M_tell_B34 k100 (M_tell_L34 k100 n) x1 x2 x3 m
def M_tell_B119 (rec : Int → zM → Option (Int × zM)) (x3 : Int) (m : zM) : Option (Int × zM) :=
  (if x3 < m 0 65 then
  rd 1 1800 (wI (2 * x3)) m (fun y3 =>
  wr 43 16 x3 y3 m (fun m4 =>
  rd 1 1800 (wI ((wI (2 * x3)) + 1)) m4 (fun y5 =>
  wr 44 16 x3 y5 m4 (fun m6 =>
  rec (wI (x3 + 1)) m6))))
  else some (m 0 65, m))
def M_tell_L119  : Nat → Int → zM → Option (Int × zM)
  | 0, _, _ => none
  | n + 1, x3, m => M_tell_B119 (M_tell_L119 n) x3 m
def M_tell_b100 (x1 : Int) (x2 : Int) (m : zM) : Option (Int × zM) :=
  (if x2 = 0 then
  (M_refuses 5 m).bind (fun r2 =>
  some (r2.1, r2.2))
  else pf 0 65 (dvI x1 2) m (fun m5 =>
  M_tell_L119 1000000 0 m5))
def M_tell_b31 (x1 : Int) (s0 : Int) (m : zM) : Option (Int × zM) :=
  M_tell_L34 (fun x1_1 x2_1 m2 => M_tell_b100 x1_1 x2_1 m2) 1000000 x1 s0 0 m
def M_tell_b30 (x1 : Int) (m : zM) : Option (Int × zM) :=
  M_tell_b31 x1 0 m
def M_tell (m : zM) : Option (Int × zM) :=
  pf 0 1 0 m (fun m2 =>
  (if 0 < m 0 1 then
  (if rmI (m 0 1) 2 = 0 then
  (if 32 < m 0 1 then
  M_tell_b30 (m 0 1) m2
  else M_tell_b31 (m 0 1) 1 m2)
  else M_tell_b30 (m 0 1) m2)
  else M_tell_b30 (m 0 1) m2))
def M_suitsBy_B5 (rec : Int → Int → Int → Int → Option (Int)) (x1 : Int) (x2 : Int) (x3 : Int) (x4 : Int) (m : zM) : Option (Int) :=
  (if x4 < 3 then
  (M_digit x1 x4).bind (fun r2 =>
  (M_look 0 x2 x4 m).bind (fun r5 =>
  lt (wI (x3 + (wI (r2 * r5)))) (fun v8 =>
  rec x1 x2 v8 (wI (x4 + 1)))))
  else some x3)
def M_suitsBy_L5 (m : zM) : Nat → Int → Int → Int → Int → Option (Int)
  | 0, _, _, _, _ => none
  | n + 1, x1, x2, x3, x4 => M_suitsBy_B5 (M_suitsBy_L5 m n) x1 x2 x3 x4 m
def M_suitsBy (x1 : Int) (x2 : Int) (m : zM) : Option (Int) :=
  M_suitsBy_L5 m 1000000 x1 x2 0 0
def M_isTaste_B2 (rec : Int → Int → Option (Int)) (x1 : Int) (x2 : Int) (m : zM) : Option (Int) :=
  (if x2 < m 0 65 then
  rd 43 16 x2 m (fun y3 =>
  (M_suitsBy x1 y3 m).bind (fun r4 =>
  rd 44 16 x2 m (fun y7 =>
  (M_suitsBy x1 y7 m).bind (fun r8 =>
  (if r8 < r4 then
  rec x1 (wI (x2 + 1))
  else some 0)))))
  else some 1)
def M_isTaste_L2 (m : zM) : Nat → Int → Int → Option (Int)
  | 0, _, _ => none
  | n + 1, x1, x2 => M_isTaste_B2 (M_isTaste_L2 m n) x1 x2 m
def M_isTaste (x1 : Int) (m : zM) : Option (Int) :=
  M_isTaste_L2 m 1000000 x1 0
def M_tastes_b78 (k104 : Int → Int → Int → Int → Option (Int)) (rec : Int → Int → Int → Int → Int → Option (Int)) (x1 : Int) (x2 : Int) (x4 : Int) (x5 : Int) (x6 : Int) (s0 : Int) (m : zM) : Option (Int) :=
  (if x4 < x6 then
  rec x1 (wI (x2 + 1)) s0 x6 (wI (x5 + 1))
  else rec x1 (wI (x2 + 1)) s0 x4 (wI (x5 + 1)))
def M_tastes_b72 (k104 : Int → Int → Int → Int → Option (Int)) (rec : Int → Int → Int → Int → Int → Option (Int)) (x1 : Int) (x2 : Int) (x4 : Int) (x5 : Int) (x6 : Int) (m : zM) : Option (Int) :=
  M_tastes_b78 k104 rec x1 x2 x4 x5 x6 x6 m
def M_tastes_b60 (k104 : Int → Int → Int → Int → Option (Int)) (rec : Int → Int → Int → Int → Int → Option (Int)) (x1 : Int) (x2 : Int) (x3 : Int) (x4 : Int) (x5 : Int) (s0 : Int) (m : zM) : Option (Int) :=
  (if x2 = 0 then
  M_tastes_b72 k104 rec x1 x2 x4 x5 s0 m
  else (if s0 < x3 then
  M_tastes_b72 k104 rec x1 x2 x4 x5 s0 m
  else M_tastes_b78 k104 rec x1 x2 x4 x5 s0 x3 m))
def M_tastes_B22 (k104 : Int → Int → Int → Int → Option (Int)) (rec : Int → Int → Int → Int → Int → Option (Int)) (x1 : Int) (x2 : Int) (x3 : Int) (x4 : Int) (x5 : Int) (m : zM) : Option (Int) :=
  (if x5 < 1000 then
  (M_isTaste x5 m).bind (fun r2 =>
  (if r2 = 0 then
  rec x1 x2 x3 x4 (wI (x5 + 1))
  else (if x1 = 0 then
  M_tastes_b60 k104 rec x1 x2 x3 x4 x5 0 m
  else (M_digit x5 (rmI (wI (x1 - 1)) 3)).bind (fun r7 =>
  M_tastes_b60 k104 rec x1 x2 x3 x4 x5 r7 m))))
  else k104 x1 x2 x3 x4)
def M_tastes_L22 (k104 : Int → Int → Int → Int → Option (Int)) (m : zM) : Nat → Int → Int → Int → Int → Int → Option (Int)
  | 0, _, _, _, _, _ => none
  | n + 1, x1, x2, x3, x4, x5 => M_tastes_B22 k104 (M_tastes_L22 k104 m n) x1 x2 x3 x4 x5 m
def M_tastes (x1 : Int) (m : zM) : Option (Int) :=
  (M_is x1 0 6).bind (fun r1 =>
  (if r1 = 0 then
  some ((-1))
  else M_tastes_L22 (fun x1_5 x2_5 x3_5 x4_5 => (if x1_5 = 0 then
  some x2_5
  else (if x1_5 < 4 then
  some x3_5
  else some x4_5))) m 1000000 x1 0 ((-1)) ((-1)) 0))
def M_send_B81 (k101 : Int → Int → Int → Int → Int → Int → zM → Option (Int × zM)) (rec : Int → Int → Int → Int → Int → Int → Int → zM → Option (Int × zM)) (x1 : Int) (x2 : Int) (x3 : Int) (x4 : Int) (x5 : Int) (x6 : Int) (x7 : Int) (m : zM) : Option (Int × zM) :=
  (if x7 < 3 then
  wr 45 3 x7 0 m (fun m2 =>
  rec x1 x2 x3 x4 x5 x6 (wI (x7 + 1)) m2)
  else k101 x1 x2 x3 x4 x5 x6 m)
def M_send_L81 (k101 : Int → Int → Int → Int → Int → Int → zM → Option (Int × zM)) : Nat → Int → Int → Int → Int → Int → Int → Int → zM → Option (Int × zM)
  | 0, _, _, _, _, _, _, _, _ => none
  | n + 1, x1, x2, x3, x4, x5, x6, x7, m => M_send_B81 k101 (M_send_L81 k101 n) x1 x2 x3 x4 x5 x6 x7 m
def M_send_B104 (k177 : Int → Int → Int → Int → Int → Int → zM → Option (Int × zM)) (rec : Int → Int → Int → Int → Int → Int → Int → zM → Option (Int × zM)) (x1 : Int) (x2 : Int) (x3 : Int) (x4 : Int) (x5 : Int) (x6 : Int) (x7 : Int) (m : zM) : Option (Int × zM) :=
  (if x7 < 1000 then
  (M_isTaste x7 m).bind (fun r2 =>
  (if r2 = 0 then
  rec x1 x2 x3 x4 x5 x6 (wI (x7 + 1)) m
  else (M_suitsBy x7 x5 m).bind (fun r6 =>
  (M_suitsBy x7 x6 m).bind (fun r9 =>
  lt (wI (r6 - r9)) (fun v12 =>
  (if 0 < v12 then
  rd 45 3 0 m (fun y14 =>
  wr 45 3 0 (wI (y14 + 1)) m (fun m15 =>
  rec x1 x2 x3 x4 x5 x6 (wI (x7 + 1)) m15))
  else (if v12 < 0 then
  rd 45 3 1 m (fun y17 =>
  wr 45 3 1 (wI (y17 + 1)) m (fun m18 =>
  rec x1 x2 x3 x4 x5 x6 (wI (x7 + 1)) m18))
  else rd 45 3 2 m (fun y19 =>
  wr 45 3 2 (wI (y19 + 1)) m (fun m20 =>
  rec x1 x2 x3 x4 x5 x6 (wI (x7 + 1)) m20)))))))))
  else k177 x1 x2 x3 x4 x5 x6 m)
def M_send_L104 (k177 : Int → Int → Int → Int → Int → Int → zM → Option (Int × zM)) : Nat → Int → Int → Int → Int → Int → Int → Int → zM → Option (Int × zM)
  | 0, _, _, _, _, _, _, _, _ => none
  | n + 1, x1, x2, x3, x4, x5, x6, x7, m => M_send_B104 k177 (M_send_L104 k177 n) x1 x2 x3 x4 x5 x6 x7 m
def M_send_b231 (k258 : Int → Int → Int → Int → Int → zM → Option (Int × zM)) (rec : Int → Int → Int → Int → Int → Int → zM → Option (Int × zM)) (x1 : Int) (x2 : Int) (x3 : Int) (x4 : Int) (x5 : Int) (x6 : Int) (s0 : Int) (m : zM) : Option (Int × zM) :=
  (if s0 < x2 then
  rec x1 s0 x5 x6 x5 (wI (x6 + 1)) m
  else rec x1 x2 x3 x4 x5 (wI (x6 + 1)) m)
def M_send_b207 (k258 : Int → Int → Int → Int → Int → zM → Option (Int × zM)) (rec : Int → Int → Int → Int → Int → Int → zM → Option (Int × zM)) (x1 : Int) (x2 : Int) (x3 : Int) (x4 : Int) (x5 : Int) (x6 : Int) (s0 : Int) (m : zM) : Option (Int × zM) :=
  rd 45 3 2 m (fun y1 =>
  (if s0 < y1 then
  rd 45 3 2 m (fun y3 =>
  M_send_b231 k258 rec x1 x2 x3 x4 x5 x6 y3 m)
  else M_send_b231 k258 rec x1 x2 x3 x4 x5 x6 s0 m))
def M_send_B64 (k258 : Int → Int → Int → Int → Int → zM → Option (Int × zM)) (rec : Int → Int → Int → Int → Int → Int → zM → Option (Int × zM)) (x1 : Int) (x2 : Int) (x3 : Int) (x4 : Int) (x5 : Int) (x6 : Int) (m : zM) : Option (Int × zM) :=
  rd 7 2 (m 0 13) m (fun y2 =>
  (if x6 < y2 then
  M_send_L81 (fun x1_4 x2_4 x3_4 x4_4 x5_4 x6_4 m5 => M_send_L104 (fun x1_6 x2_6 x3_6 x4_6 x5_6 x6_6 m7 => rd 45 3 0 m7 (fun y8 =>
  rd 45 3 1 m7 (fun y9 =>
  (if y9 < y8 then
  rd 45 3 0 m7 (fun y11 =>
  M_send_b207 k258 rec x1_6 x2_6 x3_6 x4_6 x5_6 x6_6 y11 m7)
  else rd 45 3 1 m7 (fun y12 =>
  M_send_b207 k258 rec x1_6 x2_6 x3_6 x4_6 x5_6 x6_6 y12 m7))))) 1000000 x1_4 x2_4 x3_4 x4_4 x5_4 x6_4 0 m5) 1000000 x1 x2 x3 x4 x5 x6 0 m
  else k258 x1 x2 x3 x4 x5 m))
def M_send_L64 (k258 : Int → Int → Int → Int → Int → zM → Option (Int × zM)) : Nat → Int → Int → Int → Int → Int → Int → zM → Option (Int × zM)
  | 0, _, _, _, _, _, _, _ => none
  | n + 1, x1, x2, x3, x4, x5, x6, m => M_send_B64 k258 (M_send_L64 k258 n) x1 x2 x3 x4 x5 x6 m
def M_send_B44 (k264 : Int → Int → Int → Int → zM → Option (Int × zM)) (rec : Int → Int → Int → Int → Int → zM → Option (Int × zM)) (x1 : Int) (x2 : Int) (x3 : Int) (x4 : Int) (x5 : Int) (m : zM) : Option (Int × zM) :=
  rd 7 2 (m 0 13) m (fun y2 =>
  (if x5 < y2 then
  lt (wI (x5 + 1)) (fun v4 =>
  M_send_L64 (fun x1_5 x2_5 x3_5 x4_5 x5_5 m6 => rec x1_5 x2_5 x3_5 x4_5 (wI (x5_5 + 1)) m6) 1000000 x1 x2 x3 x4 x5 v4 m)
  else k264 x1 x2 x3 x4 m))
def M_send_L44 (k264 : Int → Int → Int → Int → zM → Option (Int × zM)) : Nat → Int → Int → Int → Int → Int → zM → Option (Int × zM)
  | 0, _, _, _, _, _, _ => none
  | n + 1, x1, x2, x3, x4, x5, m => M_send_B44 k264 (M_send_L44 k264 n) x1 x2 x3 x4 x5 m
def M_send (x1 : Int) (m : zM) : Option (Int × zM) :=
  (M_is x1 0 2).bind (fun r1 =>
  (if r1 = 0 then
  some ((-1), m)
  else rd 7 2 (m 0 13) m (fun y6 =>
  (if y6 < 2 then
  some ((-1), m)
  else (M_tastes 0 m).bind (fun r8 =>
  (if r8 = 0 then
  some ((-1), m)
  else M_send_L44 (fun x1_12 x2_12 x3_12 x4_12 m13 => (if x1_12 = 0 then
  some (x3_12, m13)
  else (if x1_12 = 1 then
  some (x4_12, m13)
  else some (x2_12, m13)))) 1000000 x1 100000000 ((-1)) ((-1)) 0 m))))))
def M_pointed_B5 (rec : Int → Int → Int → Int → zM → Option (Int × zM)) (x1 : Int) (x2 : Int) (x3 : Int) (x4 : Int) (m : zM) : Option (Int × zM) :=
  rd 2 2 (m 0 13) m (fun y2 =>
  (if x4 < y2 then
  (M_has2 x2 x4).bind (fun r4 =>
  (if r4 = 0 then
  rec x1 x2 x3 (wI (x4 + 1)) m
  else rd 46 6 x4 m (fun y8 =>
  (M_liked 0 x1 y8 m).bind (fun r9 =>
  rd 46 6 x3 r9.2 (fun y12 =>
  (M_liked 0 x1 y12 r9.2).bind (fun r13 =>
  (if r13.1 < r9.1 then
  rec x1 x2 x4 (wI (x4 + 1)) r13.2
  else rec x1 x2 x3 (wI (x4 + 1)) r13.2)))))))
  else some (x3, m)))
def M_pointed_L5  : Nat → Int → Int → Int → Int → zM → Option (Int × zM)
  | 0, _, _, _, _, _ => none
  | n + 1, x1, x2, x3, x4, m => M_pointed_B5 (M_pointed_L5 n) x1 x2 x3 x4 m
def M_pointed (x1 : Int) (x2 : Int) (m : zM) : Option (Int × zM) :=
  M_pointed_L5 1000000 x1 x2 x1 0 m
def M_isInRing_B9 (rec : Int → Int → Int → Option (Int)) (x1 : Int) (x2 : Int) (x3 : Int) (m : zM) : Option (Int) :=
  (if x3 < 6 then
  (if x2 = x1 then
  some 1
  else rd 47 6 x2 m (fun y3 =>
  rec x1 y3 (wI (x3 + 1))))
  else some 0)
def M_isInRing_L9 (m : zM) : Nat → Int → Int → Int → Option (Int)
  | 0, _, _, _ => none
  | n + 1, x1, x2, x3 => M_isInRing_B9 (M_isInRing_L9 m n) x1 x2 x3 m
def M_isInRing (x1 : Int) (m : zM) : Option (Int) :=
  rd 47 6 x1 m (fun y1 =>
  M_isInRing_L9 m 1000000 x1 y1 0)
def M_round_b66 (k114 : Int → Int → Int → zM → Option (Int × zM)) (rec : Int → Int → Int → Int → zM → Option (Int × zM)) (x1 : Int) (x2 : Int) (x3 : Int) (x4 : Int) (a0 : Nat) (n0 : Nat) (s1 : Int) (s3 : Int) (s4 : Int) (s5 : Int) (s6 : Int) (m : zM) : Option (Int × zM) :=
  (M_wished s3 s4 s5 s6 m).bind (fun r1 =>
  wr a0 n0 s1 r1.1 r1.2 (fun m4 =>
  wr 48 6 x4 ((-1)) m4 (fun m5 =>
  wr 49 6 x4 ((-1)) m5 (fun m6 =>
  rd 46 6 x4 m6 (fun y7 =>
  (if y7 = (-1) then
  rec x1 x2 (orI x3 0) (wI (x4 + 1)) m6
  else lt (orI x3 (slI 1 x4)) (fun v9 =>
  rec x1 x2 v9 (wI (x4 + 1)) m6)))))))
def M_round_B24 (k114 : Int → Int → Int → zM → Option (Int × zM)) (rec : Int → Int → Int → Int → zM → Option (Int × zM)) (x1 : Int) (x2 : Int) (x3 : Int) (x4 : Int) (m : zM) : Option (Int × zM) :=
  rd 2 2 (m 0 13) m (fun y2 =>
  (if x4 < y2 then
  (M_toldOf 0 m).bind (fun r4 =>
  (if r4 = 0 then
  M_round_b66 k114 rec x1 x2 x3 x4 46 6 x4 0 x4 0 1 m
  else (M_toldOf 0 m).bind (fun r8 =>
  M_round_b66 k114 rec x1 x2 x3 x4 46 6 x4 0 x4 0 r8 m)))
  else k114 x1 x2 x3 m))
def M_round_L24 (k114 : Int → Int → Int → zM → Option (Int × zM)) : Nat → Int → Int → Int → Int → zM → Option (Int × zM)
  | 0, _, _, _, _, _ => none
  | n + 1, x1, x2, x3, x4, m => M_round_B24 k114 (M_round_L24 k114 n) x1 x2 x3 x4 m
def M_round_B124 (k172 : Int → Int → Int → Int → zM → Option (Int × zM)) (rec : Int → Int → Int → Int → Int → zM → Option (Int × zM)) (x1 : Int) (x2 : Int) (x3 : Int) (x4 : Int) (x5 : Int) (m : zM) : Option (Int × zM) :=
  rd 2 2 (m 0 13) m (fun y2 =>
  (if x5 < y2 then
  (M_has2 x3 x5).bind (fun r4 =>
  (if r4 = 0 then
  wr 47 6 x5 x5 m (fun m8 =>
  rec x1 x2 x3 x4 (wI (x5 + 1)) m8)
  else (M_pointed x5 x3 m).bind (fun r9 =>
  wr 47 6 x5 r9.1 r9.2 (fun m12 =>
  rec x1 x2 x3 x4 (wI (x5 + 1)) m12))))
  else k172 x1 x2 x3 x4 m))
def M_round_L124 (k172 : Int → Int → Int → Int → zM → Option (Int × zM)) : Nat → Int → Int → Int → Int → Int → zM → Option (Int × zM)
  | 0, _, _, _, _, _, _ => none
  | n + 1, x1, x2, x3, x4, x5, m => M_round_B124 k172 (M_round_L124 k172 n) x1 x2 x3 x4 x5 m
def M_round_B178 (k256 : Int → Int → Int → Int → Int → zM → Option (Int × zM)) (rec : Int → Int → Int → Int → Int → Int → zM → Option (Int × zM)) (x1 : Int) (x2 : Int) (x3 : Int) (x4 : Int) (x5 : Int) (x6 : Int) (m : zM) : Option (Int × zM) :=
  rd 2 2 (m 0 13) m (fun y2 =>
  (if x6 < y2 then
  (M_has2 x3 x6).bind (fun r4 =>
  (if r4 = 0 then
  rec x1 x2 x3 x4 x5 (wI (x6 + 1)) m
  else (M_isInRing x6 m).bind (fun r8 =>
  (if r8 = 0 then
  rec x1 x2 x3 x4 x5 (wI (x6 + 1)) m
  else lt (orI x5 (slI 1 x6)) (fun v12 =>
  rd 47 6 x6 m (fun y13 =>
  rd 46 6 y13 m (fun y14 =>
  wr 48 6 x6 y14 m (fun m15 =>
  wr 49 6 x6 x4 m15 (fun m16 =>
  rec x1 x2 x3 x4 v12 (wI (x6 + 1)) m16)))))))))
  else k256 x1 x2 x3 x4 x5 m))
def M_round_L178 (k256 : Int → Int → Int → Int → Int → zM → Option (Int × zM)) : Nat → Int → Int → Int → Int → Int → Int → zM → Option (Int × zM)
  | 0, _, _, _, _, _, _, _ => none
  | n + 1, x1, x2, x3, x4, x5, x6, m => M_round_B178 k256 (M_round_L178 k256 n) x1 x2 x3 x4 x5 x6 m
def M_round_B117 (k269 : Int → Int → zM → Option (Int × zM)) (rec : Int → Int → Int → Int → zM → Option (Int × zM)) (x1 : Int) (x2 : Int) (x3 : Int) (x4 : Int) (m : zM) : Option (Int × zM) :=
  (if x3 = 0 then
  k269 x1 x2 m
  else M_round_L124 (fun x1_2 x2_2 x3_2 x4_2 m3 => M_round_L178 (fun x1_4 x2_4 x3_4 x4_4 x5_4 m5 => lt (anI x3_4 (xoI x5_4 ((-1)))) (fun v6 =>
  rec x1_4 x2_4 v6 (wI (x4_4 + 1)) m5)) 1000000 x1_2 x2_2 x3_2 x4_2 0 0 m3) 1000000 x1 x2 x3 x4 0 m)
def M_round_L117 (k269 : Int → Int → zM → Option (Int × zM)) : Nat → Int → Int → Int → Int → zM → Option (Int × zM)
  | 0, _, _, _, _, _ => none
  | n + 1, x1, x2, x3, x4, m => M_round_B117 k269 (M_round_L117 k269 n) x1 x2 x3 x4 m
def M_round (x1 : Int) (x2 : Int) (m : zM) : Option (Int × zM) :=
  (M_isBeast x1 m).bind (fun r1 =>
  (if r1 = 0 then
  some ((-1), m)
  else (M_is x2 0 2).bind (fun r5 =>
  (if r5 = 0 then
  some ((-1), m)
  else M_round_L24 (fun x1_9 x2_9 x3_9 m10 => M_round_L117 (fun x1_11 x2_11 m12 => (if x2_11 = 0 then
  rd 48 6 x1_11 m12 (fun y14 =>
  some (y14, m12))
  else (if x2_11 = 1 then
  rd 49 6 x1_11 m12 (fun y16 =>
  some (y16, m12))
  else rd 46 6 x1_11 m12 (fun y17 =>
  some (y17, m12))))) 1000000 x1_9 x2_9 x3_9 1 m10) 1000000 x1 x2 0 0 m))))
def M_walk_B49 (k108 : Int → Int → Int → zM → Option (Int × zM)) (rec : Int → Int → Int → Int → zM → Option (Int × zM)) (x1 : Int) (x2 : Int) (x3 : Int) (x4 : Int) (m : zM) : Option (Int × zM) :=
  rd 2 2 (m 0 13) m (fun y2 =>
  (if x4 < y2 then
  rd 51 64 x3 m (fun y4 =>
  (M_has2 x3 x4).bind (fun r5 =>
  (if r5 = 0 then
  wr 51 64 x3 (wI (y4 + 0)) m (fun m9 =>
  rec x1 x2 x3 (wI (x4 + 1)) m9)
  else rd 5 12 (wI ((wI (6 * (m 0 13))) + x4)) m (fun y11 =>
  wr 51 64 x3 (wI (y4 + (wI (2 * y11)))) m (fun m12 =>
  rec x1 x2 x3 (wI (x4 + 1)) m12)))))
  else k108 x1 x2 x3 m))
def M_walk_L49 (k108 : Int → Int → Int → zM → Option (Int × zM)) : Nat → Int → Int → Int → Int → zM → Option (Int × zM)
  | 0, _, _, _, _, _ => none
  | n + 1, x1, x2, x3, x4, m => M_walk_B49 k108 (M_walk_L49 k108 n) x1 x2 x3 x4 m
def M_walk_B33 (k131 : Int → Int → zM → Option (Int × zM)) (rec : Int → Int → Int → zM → Option (Int × zM)) (x1 : Int) (x2 : Int) (x3 : Int) (m : zM) : Option (Int × zM) :=
  (if x3 < 64 then
  wr 51 64 x3 0 m (fun m2 =>
  M_walk_L49 (fun x1_3 x2_3 x3_3 m4 => (if x3_3 = 0 then
  wr 50 448 x3_3 0 m4 (fun m6 =>
  rec x1_3 x2_3 (wI (x3_3 + 1)) m6)
  else wr 50 448 x3_3 100000000 m4 (fun m7 =>
  rec x1_3 x2_3 (wI (x3_3 + 1)) m7))) 1000000 x1 x2 x3 0 m2)
  else k131 x1 x2 m)
def M_walk_L33 (k131 : Int → Int → zM → Option (Int × zM)) : Nat → Int → Int → Int → zM → Option (Int × zM)
  | 0, _, _, _, _ => none
  | n + 1, x1, x2, x3, m => M_walk_B33 k131 (M_walk_L33 k131 n) x1 x2 x3 m
def M_walk_b218 (k248 : Int → Int → Int → Int → Int → zM → Option (Int × zM)) (rec : Int → Int → Int → Int → Int → Int → zM → Option (Int × zM)) (x1 : Int) (x2 : Int) (x3 : Int) (x4 : Int) (x5 : Int) (x6 : Int) (s0 : Int) (m : zM) : Option (Int × zM) :=
  (if s0 < x5 then
  lt (anI (wI (x6 - 1)) x4) (fun v2 =>
  rec x1 x2 x3 x4 s0 v2 m)
  else lt (anI (wI (x6 - 1)) x4) (fun v3 =>
  rec x1 x2 x3 x4 x5 v3 m))
def M_walk_B168 (k248 : Int → Int → Int → Int → Int → zM → Option (Int × zM)) (rec : Int → Int → Int → Int → Int → Int → zM → Option (Int × zM)) (x1 : Int) (x2 : Int) (x3 : Int) (x4 : Int) (x5 : Int) (x6 : Int) (m : zM) : Option (Int × zM) :=
  (if 0 < x6 then
  rd 50 448 (wI ((wI (64 * (wI (x3 - 1)))) + (anI x4 (xoI x6 ((-1)))))) m (fun y2 =>
  rd 51 64 x6 m (fun y3 =>
  (if y3 < y2 then
  M_walk_b218 k248 rec x1 x2 x3 x4 x5 x6 y2 m
  else rd 51 64 x6 m (fun y5 =>
  M_walk_b218 k248 rec x1 x2 x3 x4 x5 x6 y5 m))))
  else k248 x1 x2 x3 x4 x5 m)
def M_walk_L168 (k248 : Int → Int → Int → Int → Int → zM → Option (Int × zM)) : Nat → Int → Int → Int → Int → Int → Int → zM → Option (Int × zM)
  | 0, _, _, _, _, _, _, _ => none
  | n + 1, x1, x2, x3, x4, x5, x6, m => M_walk_B168 k248 (M_walk_L168 k248 n) x1 x2 x3 x4 x5 x6 m
def M_walk_B141 (k268 : Int → Int → Int → zM → Option (Int × zM)) (rec : Int → Int → Int → Int → zM → Option (Int × zM)) (x1 : Int) (x2 : Int) (x3 : Int) (x4 : Int) (m : zM) : Option (Int × zM) :=
  (if x4 < 64 then
  rd 50 448 (wI ((wI (64 * (wI (x3 - 1)))) + x4)) m (fun y2 =>
  M_walk_L168 (fun x1_3 x2_3 x3_3 x4_3 x5_3 m4 => wr 50 448 (wI ((wI (64 * x3_3)) + x4_3)) x5_3 m4 (fun m5 =>
  rec x1_3 x2_3 x3_3 (wI (x4_3 + 1)) m5)) 1000000 x1 x2 x3 x4 y2 x4 m)
  else k268 x1 x2 x3 m)
def M_walk_L141 (k268 : Int → Int → Int → zM → Option (Int × zM)) : Nat → Int → Int → Int → Int → zM → Option (Int × zM)
  | 0, _, _, _, _, _ => none
  | n + 1, x1, x2, x3, x4, m => M_walk_B141 k268 (M_walk_L141 k268 n) x1 x2 x3 x4 m
def M_walk_B133 (rec : Int → Int → Int → zM → Option (Int × zM)) (x1 : Int) (x2 : Int) (x3 : Int) (m : zM) : Option (Int × zM) :=
  (if x2 < x3 then
  rd 50 448 (wI ((wI (64 * x2)) + x1)) m (fun y2 =>
  some (y2, m))
  else M_walk_L141 (fun x1_3 x2_3 x3_3 m4 => rec x1_3 x2_3 (wI (x3_3 + 1)) m4) 1000000 x1 x2 x3 0 m)
def M_walk_L133  : Nat → Int → Int → Int → zM → Option (Int × zM)
  | 0, _, _, _, _ => none
  | n + 1, x1, x2, x3, m => M_walk_B133 (M_walk_L133 n) x1 x2 x3 m
def M_walk (x1 : Int) (x2 : Int) (m : zM) : Option (Int × zM) :=
  (if x1 < 0 then
  some ((-1), m)
  else rd 2 2 (m 0 13) m (fun y3 =>
  (if x1 < slI 1 y3 then
  (M_is x2 1 6).bind (fun r5 =>
  (if r5 = 0 then
  some ((-1), m)
  else M_walk_L33 (fun x1_9 x2_9 m10 => M_walk_L133 1000000 x1_9 x2_9 1 m10) 1000000 x1 x2 0 m))
  else some ((-1), m))))
def M_torn_B34 (k83 : Int → Int → zM → Option (Int × zM)) (rec : Int → Int → Int → zM → Option (Int × zM)) (x1 : Int) (x2 : Int) (x3 : Int) (m : zM) : Option (Int × zM) :=
  (if x3 < x1 then
  (if x2 = 0 then
  k83 x1 x2 m
  else rd 1 1800 x3 m (fun y3 =>
  (M_isBeast y3 m).bind (fun r4 =>
  (if r4 = 0 then
  rec x1 0 (wI (x3 + 2)) m
  else rd 1 1800 (wI (x3 + 1)) m (fun y8 =>
  (M_isGuest y8 m).bind (fun r9 =>
  (if r9 = 0 then
  rec x1 0 (wI (x3 + 2)) m
  else rec x1 1 (wI (x3 + 2)) m)))))))
  else k83 x1 x2 m)
def M_torn_L34 (k83 : Int → Int → zM → Option (Int × zM)) : Nat → Int → Int → Int → zM → Option (Int × zM)
  | 0, _, _, _, _ => none
  | n + 1, x1, x2, x3, m => M_torn_B34 k83 (M_torn_L34 k83 n) x1 x2 x3 m
def M_torn_B125 (k203 : Int → Int → Int → zM → Option (Int × zM)) (rec : Int → Int → Int → Int → zM → Option (Int × zM)) (x1 : Int) (x3 : Int) (x4 : Int) (x5 : Int) (m : zM) : Option (Int × zM) :=
  rd 2 2 (m 0 13) m (fun y2 =>
  (if x5 < y2 then
  (if x3 < x1 then
  rd 39 6 x5 m (fun y5 =>
  (if y5 = (-1) then
  rec x1 x3 x4 (wI (x5 + 1)) m
  else rd 40 6 x5 m (fun y7 =>
  (if y7 = 0 then
  rec x1 x3 x4 (wI (x5 + 1)) m
  else rd 1 1800 x3 m (fun y9 =>
  (if y9 = x5 then
  rd 1 1800 (wI (x3 + 1)) m (fun y11 =>
  rd 39 6 x5 m (fun y12 =>
  (if y11 = y12 then
  rec x1 (wI (x3 + 2)) x4 (wI (x5 + 1)) m
  else rec x1 x3 x4 (wI (x5 + 1)) m)))
  else rec x1 x3 x4 (wI (x5 + 1)) m))))))
  else k203 x1 x3 x4 m)
  else k203 x1 x3 x4 m))
def M_torn_L125 (k203 : Int → Int → Int → zM → Option (Int × zM)) : Nat → Int → Int → Int → Int → zM → Option (Int × zM)
  | 0, _, _, _, _, _ => none
  | n + 1, x1, x3, x4, x5, m => M_torn_B125 k203 (M_torn_L125 k203 n) x1 x3 x4 x5 m
def M_torn_b203 (rec : Int → Int → Int → zM → Option (Int × zM)) (x1 : Int) (x3 : Int) (x4 : Int) (m : zM) : Option (Int × zM) :=
  (if x3 = x1 then
  some (x4, m)
  else (M_isOver 1 m).bind (fun r2 =>
  rec x1 x3 (wI (x4 + 1)) r2))
def M_torn_B104 (rec : Int → Int → Int → zM → Option (Int × zM)) (x1 : Int) (x3 : Int) (x4 : Int) (m : zM) : Option (Int × zM) :=
  (M_isAhead x4 1 100 m).bind (fun r1 =>
  (if r1 = 0 then
  some ((-1), m)
  else (M_asking 1 m).bind (fun r5 =>
  M_torn_L125 (fun x1_8 x3_8 x4_8 m9 => M_torn_b203 rec x1_8 x3_8 x4_8 m9) 1000000 x1 x3 x4 0 r5.2)))
def M_torn_L104  : Nat → Int → Int → Int → zM → Option (Int × zM)
  | 0, _, _, _, _ => none
  | n + 1, x1, x3, x4, m => M_torn_B104 (M_torn_L104 n) x1 x3 x4 m
def M_torn_b83 (x1 : Int) (x2 : Int) (m : zM) : Option (Int × zM) :=
  (if x2 = 0 then
  (M_refuses 5 m).bind (fun r2 =>
  some (r2.1, r2.2))
  else (M_copies 1 0 m).bind (fun r5 =>
  M_torn_L104 1000000 x1 0 1 r5))
def M_torn_b31 (x1 : Int) (s0 : Int) (m : zM) : Option (Int × zM) :=
  M_torn_L34 (fun x1_1 x2_1 m2 => M_torn_b83 x1_1 x2_1 m2) 1000000 x1 s0 0 m
def M_torn_b30 (x1 : Int) (m : zM) : Option (Int × zM) :=
  M_torn_b31 x1 0 m
def M_torn (m : zM) : Option (Int × zM) :=
  pf 0 1 0 m (fun m2 =>
  (if 0 < m 0 1 then
  (if rmI (m 0 1) 2 = 0 then
  (if 32 < m 0 1 then
  M_torn_b30 (m 0 1) m2
  else M_torn_b31 (m 0 1) 1 m2)
  else M_torn_b30 (m 0 1) m2)
  else M_torn_b30 (m 0 1) m2))
def M_hours_B26 (rec : Int → Int → Int → zM → Option (Int × zM)) (x1 : Int) (x2 : Int) (x3 : Int) (m : zM) : Option (Int × zM) :=
  (if x3 < x1 then
  (M_asking 0 m).bind (fun r2 =>
  lt (wI (x2 + r2.1)) (fun v5 =>
  (M_isOver 0 r2.2).bind (fun r6 =>
  rec x1 v5 (wI (x3 + 1)) r6)))
  else some (x2, m))
def M_hours_L26  : Nat → Int → Int → Int → zM → Option (Int × zM)
  | 0, _, _, _, _ => none
  | n + 1, x1, x2, x3, m => M_hours_B26 (M_hours_L26 n) x1 x2 x3 m
def M_hours (x1 : Int) (m : zM) : Option (Int × zM) :=
  (M_isAhead x1 1 200 m).bind (fun r1 =>
  (if r1 = 0 then
  (M_refuses 2 m).bind (fun r5 =>
  some (r5.1, r5.2))
  else (M_keeps m).bind (fun r8 =>
  M_hours_L26 1000000 x1 0 0 r8)))
def M_draw (x1 : Int) (m : zM) : Option (Int × zM) :=
  pf 0 58 (rmL (wL ((wL (1103515245 * (m 0 58))) + 12345)) 2147483648) m (fun m2 =>
  nz x1 (some (wI (rmL (dvL (m2 0 58) 64) x1), m2)))
def M_chance_b63 (rec : Int → Int → Int → zM → Option (Int × zM)) (x1 : Int) (x3 : Int) (x4 : Int) (s0 : Int) (s1 : Int) (m : zM) : Option (Int × zM) :=
  lt (wI (s0 + s1)) (fun v1 =>
  (if x4 = 0 then
  (M_asking 0 m).bind (fun r3 =>
  (M_isOver 0 r3.2).bind (fun r6 =>
  rec x1 v1 (wI (x3 + 1)) r6))
  else (M_isOver 0 m).bind (fun r9 =>
  rec x1 v1 (wI (x3 + 1)) r9)))
def M_chance_b50 (rec : Int → Int → Int → zM → Option (Int × zM)) (x1 : Int) (x2 : Int) (x3 : Int) (s0 : Int) (m : zM) : Option (Int × zM) :=
  (if s0 = 0 then
  M_chance_b63 rec x1 x3 s0 x2 0 m
  else M_chance_b63 rec x1 x3 s0 x2 1 m)
def M_chance_B26 (rec : Int → Int → Int → zM → Option (Int × zM)) (x1 : Int) (x2 : Int) (x3 : Int) (m : zM) : Option (Int × zM) :=
  (if x3 < x1 then
  (M_draw 100 m).bind (fun r2 =>
  (M_toldOf 4 r2.2).bind (fun r5 =>
  (if r2.1 < r5 then
  M_chance_b50 rec x1 x2 x3 1 r2.2
  else M_chance_b50 rec x1 x2 x3 0 r2.2)))
  else some (x2, m))
def M_chance_L26  : Nat → Int → Int → Int → zM → Option (Int × zM)
  | 0, _, _, _, _ => none
  | n + 1, x1, x2, x3, m => M_chance_B26 (M_chance_L26 n) x1 x2 x3 m
def M_chance (x1 : Int) (m : zM) : Option (Int × zM) :=
  (M_isAhead x1 1 200 m).bind (fun r1 =>
  (if r1 = 0 then
  (M_refuses 2 m).bind (fun r5 =>
  some (r5.1, r5.2))
  else (M_keeps m).bind (fun r8 =>
  M_chance_L26 1000000 x1 0 0 r8)))
def M_areNine (x1 : Int) (x2 : Int) (x3 : Int) : Option (Int) :=
  (M_is x1 0 9).bind (fun r1 =>
  (if r1 = 0 then
  some 0
  else (M_is x2 0 9).bind (fun r5 =>
  (if r5 = 0 then
  some 0
  else (M_is x3 0 9).bind (fun r9 =>
  (if r9 = 0 then
  some 0
  else some 1))))))
def M_change_b53 (m : zM) : Option (Int × zM) :=
  (M_refuses 3 m).bind (fun r1 =>
  (if r1.1 < 0 then
  some (0, r1.2)
  else some (1, r1.2)))
def M_change_b67 (x1 : Int) (x2 : Int) (x3 : Int) (x4 : Int) (m : zM) : Option (Int × zM) :=
  (M_keeps m).bind (fun r1 =>
  wr 29 528 (wI (3 * x1)) x2 r1 (fun m4 =>
  wr 29 528 (wI ((wI (3 * x1)) + 1)) x3 m4 (fun m5 =>
  wr 29 528 (wI ((wI (3 * x1)) + 2)) x4 m5 (fun m6 =>
  some (1, m6)))))
def M_change (x1 : Int) (x2 : Int) (x3 : Int) (x4 : Int) (m : zM) : Option (Int × zM) :=
  (M_isGuest x1 m).bind (fun r1 =>
  (if r1 = 0 then
  M_change_b53 m
  else (M_areNine x2 x3 x4).bind (fun r5 =>
  (if r5 = 0 then
  M_change_b53 m
  else (M_look 0 x1 0 m).bind (fun r9 =>
  (if r9 = x2 then
  (M_look 0 x1 1 m).bind (fun r13 =>
  (if r13 = x3 then
  (M_look 0 x1 2 m).bind (fun r17 =>
  (if r17 = x4 then
  M_change_b53 m
  else M_change_b67 x1 x2 x3 x4 m))
  else M_change_b67 x1 x2 x3 x4 m))
  else M_change_b67 x1 x2 x3 x4 m))))))
def M_train_b53 (m : zM) : Option (Int × zM) :=
  (M_refuses 3 m).bind (fun r1 =>
  (if r1.1 < 0 then
  some (0, r1.2)
  else some (1, r1.2)))
def M_train_b67 (x1 : Int) (x2 : Int) (x3 : Int) (x4 : Int) (m : zM) : Option (Int × zM) :=
  (M_keeps m).bind (fun r1 =>
  wr 32 396 (wI (3 * x1)) x2 r1 (fun m4 =>
  wr 32 396 (wI ((wI (3 * x1)) + 1)) x3 m4 (fun m5 =>
  wr 32 396 (wI ((wI (3 * x1)) + 2)) x4 m5 (fun m6 =>
  some (1, m6)))))
def M_train (x1 : Int) (x2 : Int) (x3 : Int) (x4 : Int) (m : zM) : Option (Int × zM) :=
  (M_isBeast x1 m).bind (fun r1 =>
  (if r1 = 0 then
  M_train_b53 m
  else (M_areNine x2 x3 x4).bind (fun r5 =>
  (if r5 = 0 then
  M_train_b53 m
  else (M_tasteIn 0 x1 0 m).bind (fun r9 =>
  (if r9 = x2 then
  (M_tasteIn 0 x1 1 m).bind (fun r13 =>
  (if r13 = x3 then
  (M_tasteIn 0 x1 2 m).bind (fun r17 =>
  (if r17 = x4 then
  M_train_b53 m
  else M_train_b67 x1 x2 x3 x4 m))
  else M_train_b67 x1 x2 x3 x4 m))
  else M_train_b67 x1 x2 x3 x4 m))))))
def M_swap_b21 (m : zM) : Option (Int × zM) :=
  (M_refuses 3 m).bind (fun r1 =>
  (if r1.1 < 0 then
  some (0, r1.2)
  else some (1, r1.2)))
def M_swap_B41 (rec : Int → Int → Int → zM → Option (Int × zM)) (x1 : Int) (x2 : Int) (x3 : Int) (m : zM) : Option (Int × zM) :=
  (if x3 < 8 then
  (M_pair 0 x1 x3).bind (fun r2 =>
  (M_pair 0 x2 x3).bind (fun r5 =>
  rd 33 1056 r2 m (fun y8 =>
  rd 34 1056 r2 m (fun y9 =>
  rd 33 1056 r5 m (fun y10 =>
  wr 33 1056 r2 y10 m (fun m11 =>
  rd 34 1056 r5 m11 (fun y12 =>
  wr 34 1056 r2 y12 m11 (fun m13 =>
  wr 33 1056 r5 y8 m13 (fun m14 =>
  wr 34 1056 r5 y9 m14 (fun m15 =>
  rec x1 x2 (wI (x3 + 1)) m15))))))))))
  else some (1, m))
def M_swap_L41  : Nat → Int → Int → Int → zM → Option (Int × zM)
  | 0, _, _, _, _ => none
  | n + 1, x1, x2, x3, m => M_swap_B41 (M_swap_L41 n) x1 x2 x3 m
def M_swap (x1 : Int) (x2 : Int) (m : zM) : Option (Int × zM) :=
  (M_isBeast x1 m).bind (fun r1 =>
  (if r1 = 0 then
  M_swap_b21 m
  else (M_isBeast x2 m).bind (fun r5 =>
  (if r5 = 0 then
  M_swap_b21 m
  else (if x1 = x2 then
  M_swap_b21 m
  else (M_keeps m).bind (fun r10 =>
  M_swap_L41 1000000 x1 x2 0 r10))))))
def M_seed (x1 : Int) (m : zM) : Option (Int × zM) :=
  (if x1 < 0 then
  (M_refuses 5 m).bind (fun r2 =>
  (if r2.1 < 0 then
  some (0, r2.2)
  else some (1, r2.2)))
  else pf 0 58 x1 m (fun m6 =>
  some (1, m6)))
def M_kept (x1 : Int) (x2 : Int) (m : zM) : Option (Int) :=
  rd 35 22 0 m (fun y1 =>
  (M_is x1 0 (wI (y1 - 1))).bind (fun r2 =>
  (if r2 = 0 then
  some ((-1))
  else (M_is x2 0 4).bind (fun r6 =>
  (if r6 = 0 then
  some ((-1))
  else rd 36 6600 (wI ((wI (5 * x1)) + x2)) m (fun y10 =>
  some y10))))))
def M_writes (x1 : Int) (m : zM) : Option (zM) :=
  wr 52 180 (m 0 76) (anI x1 255) m (fun m2 =>
  pf 0 76 (wI ((m2 0 76) + 1)) m2 (fun m4 =>
  some m4))
def M_writesTwo (x1 : Int) (m : zM) : Option (zM) :=
  (M_writes (srI x1 8) m).bind (fun r1 =>
  (M_writes x1 r1).bind (fun r4 =>
  some r4))
def M_image_B54 (k76 : Int → zM → Option (Int × zM)) (rec : Int → Int → zM → Option (Int × zM)) (x1 : Int) (x2 : Int) (m : zM) : Option (Int × zM) :=
  (if x2 < 3 then
  (M_look 0 x1 x2 m).bind (fun r2 =>
  (M_writes r2 m).bind (fun r5 =>
  rec x1 (wI (x2 + 1)) r5))
  else k76 x1 m)
def M_image_L54 (k76 : Int → zM → Option (Int × zM)) : Nat → Int → Int → zM → Option (Int × zM)
  | 0, _, _, _ => none
  | n + 1, x1, x2, m => M_image_B54 k76 (M_image_L54 k76 n) x1 x2 m
def M_image_B39 (k104 : zM → Option (Int × zM)) (rec : Int → zM → Option (Int × zM)) (x1 : Int) (m : zM) : Option (Int × zM) :=
  rd 7 2 (m 0 13) m (fun y2 =>
  (if x1 < y2 then
  M_image_L54 (fun x1_4 m5 => rd 30 176 x1_4 m5 (fun y6 =>
  (M_writes (wI (y6 + 1)) m5).bind (fun r7 =>
  rd 31 176 x1_4 r7 (fun y10 =>
  (M_writes y10 r7).bind (fun r11 =>
  rec (wI (x1_4 + 1)) r11))))) 1000000 x1 0 m
  else k104 m))
def M_image_L39 (k104 : zM → Option (Int × zM)) : Nat → Int → zM → Option (Int × zM)
  | 0, _, _ => none
  | n + 1, x1, m => M_image_B39 k104 (M_image_L39 k104 n) x1 m
def M_image_B121 (k143 : Int → zM → Option (Int × zM)) (rec : Int → Int → zM → Option (Int × zM)) (x1 : Int) (x2 : Int) (m : zM) : Option (Int × zM) :=
  (if x2 < 3 then
  (M_tasteIn 0 x1 x2 m).bind (fun r2 =>
  (M_writes r2 m).bind (fun r5 =>
  rec x1 (wI (x2 + 1)) r5))
  else k143 x1 m)
def M_image_L121 (k143 : Int → zM → Option (Int × zM)) : Nat → Int → Int → zM → Option (Int × zM)
  | 0, _, _, _ => none
  | n + 1, x1, x2, m => M_image_B121 k143 (M_image_L121 k143 n) x1 x2 m
def M_image_B145 (k196 : Int → zM → Option (Int × zM)) (rec : Int → Int → zM → Option (Int × zM)) (x1 : Int) (x2 : Int) (m : zM) : Option (Int × zM) :=
  rd 7 2 (m 0 13) m (fun y2 =>
  (if x2 < y2 then
  (M_pair 0 x1 x2).bind (fun r4 =>
  rd 33 1056 r4 m (fun y7 =>
  (M_writes y7 m).bind (fun r8 =>
  (M_pair 0 x1 x2).bind (fun r11 =>
  rd 34 1056 r11 r8 (fun y14 =>
  (M_writes y14 r8).bind (fun r15 =>
  rec x1 (wI (x2 + 1)) r15))))))
  else k196 x1 m))
def M_image_L145 (k196 : Int → zM → Option (Int × zM)) : Nat → Int → Int → zM → Option (Int × zM)
  | 0, _, _, _ => none
  | n + 1, x1, x2, m => M_image_B145 k196 (M_image_L145 k196 n) x1 x2 m
def M_image_B106 (k202 : zM → Option (Int × zM)) (rec : Int → zM → Option (Int × zM)) (x1 : Int) (m : zM) : Option (Int × zM) :=
  rd 2 2 (m 0 13) m (fun y2 =>
  (if x1 < y2 then
  M_image_L121 (fun x1_4 m5 => M_image_L145 (fun x1_6 m7 => rec (wI (x1_6 + 1)) m7) 1000000 x1_4 0 m5) 1000000 x1 0 m
  else k202 m))
def M_image_L106 (k202 : zM → Option (Int × zM)) : Nat → Int → zM → Option (Int × zM)
  | 0, _, _ => none
  | n + 1, x1, m => M_image_B106 k202 (M_image_L106 k202 n) x1 m
def M_image_B208 (rec : Int → Int → zM → Option (Int × zM)) (x1 : Int) (x2 : Int) (m : zM) : Option (Int × zM) :=
  (if x2 < m 0 76 then
  rd 52 180 x2 m (fun y3 =>
  lt (rmI (wI ((wI (5 * x1)) + y3)) 251) (fun v4 =>
  rec v4 (wI (x2 + 1)) m))
  else (M_writes x1 m).bind (fun r5 =>
  some (r5 0 76, r5)))
def M_image_L208  : Nat → Int → Int → zM → Option (Int × zM)
  | 0, _, _, _ => none
  | n + 1, x1, x2, m => M_image_B208 (M_image_L208 n) x1 x2 m
def M_image (m : zM) : Option (Int × zM) :=
  pf 0 76 0 m (fun m1 =>
  rd 27 22 0 m1 (fun y2 =>
  (M_writesTwo (dvI y2 24) m1).bind (fun r3 =>
  (M_hourIn 0 r3).bind (fun r6 =>
  (M_writes r6 r3).bind (fun r9 =>
  rd 28 22 0 r9 (fun y12 =>
  (M_writesTwo y12 r9).bind (fun r13 =>
  M_image_L39 (fun m17 => M_image_L106 (fun m19 => M_image_L208 1000000 151 0 m19) 1000000 0 m17) 1000000 0 r13)))))))
def M_octet (x1 : Int) (m : zM) : Option (Int) :=
  (M_is x1 0 (wI ((m 0 76) - 1))).bind (fun r2 =>
  (if r2 = 0 then
  some ((-1))
  else rd 52 180 x1 m (fun y6 =>
  some y6)))
def M_twoBytes (x1 : Int) (m : zM) : Option (Int) :=
  rd 1 1800 x1 m (fun y1 =>
  rd 1 1800 (wI (x1 + 1)) m (fun y2 =>
  some (orI (slI y1 8) y2)))
def M_guestOn_B2 (k34 : Int → Int → zM → Option (Int × zM)) (rec : Int → Int → Int → zM → Option (Int × zM)) (x1 : Int) (x2 : Int) (x3 : Int) (m : zM) : Option (Int × zM) :=
  (if x3 < 3 then
  rd 1 1800 (wI (x2 + x3)) m (fun y2 =>
  wr 29 528 (wI ((wI (24 + (wI (3 * x1)))) + x3)) y2 m (fun m3 =>
  rec x1 x2 (wI (x3 + 1)) m3))
  else k34 x1 x2 m)
def M_guestOn_L2 (k34 : Int → Int → zM → Option (Int × zM)) : Nat → Int → Int → Int → zM → Option (Int × zM)
  | 0, _, _, _, _ => none
  | n + 1, x1, x2, x3, m => M_guestOn_B2 k34 (M_guestOn_L2 k34 n) x1 x2 x3 m
def M_guestOn (x1 : Int) (x2 : Int) (m : zM) : Option (Int × zM) :=
  M_guestOn_L2 (fun x1_1 x2_1 m2 => rd 1 1800 (wI (x2_1 + 3)) m2 (fun y3 =>
  wr 30 176 (wI (8 + x1_1)) (wI (y3 - 1)) m2 (fun m4 =>
  rd 1 1800 (wI (x2_1 + 4)) m4 (fun y5 =>
  wr 31 176 (wI (8 + x1_1)) y5 m4 (fun m6 =>
  rd 1 1800 x2_1 m6 (fun y7 =>
  rd 1 1800 (wI (x2_1 + 1)) m6 (fun y8 =>
  rd 1 1800 (wI (x2_1 + 2)) m6 (fun y9 =>
  (M_areNine y7 y8 y9).bind (fun r10 =>
  (if r10 = 0 then
  some (0, m6)
  else rd 1 1800 (wI (x2_1 + 3)) m6 (fun y14 =>
  rd 2 2 (m6 0 13) m6 (fun y16 =>
  (if y16 < y14 then
  some (0, m6)
  else rd 1 1800 (wI (x2_1 + 4)) m6 (fun y18 =>
  rd 2 2 (m6 0 13) m6 (fun y20 =>
  (if y18 < slI 1 y20 then
  some (1, m6)
  else some (0, m6))))))))))))))))) 1000000 x1 x2 0 m
def M_beastOn_B2 (k34 : Int → Int → zM → Option (Int × zM)) (rec : Int → Int → Int → zM → Option (Int × zM)) (x1 : Int) (x2 : Int) (x3 : Int) (m : zM) : Option (Int × zM) :=
  (if x3 < 3 then
  rd 1 1800 (wI (x2 + x3)) m (fun y2 =>
  wr 32 396 (wI ((wI (18 + (wI (3 * x1)))) + x3)) y2 m (fun m3 =>
  rec x1 x2 (wI (x3 + 1)) m3))
  else k34 x1 x2 m)
def M_beastOn_L2 (k34 : Int → Int → zM → Option (Int × zM)) : Nat → Int → Int → Int → zM → Option (Int × zM)
  | 0, _, _, _, _ => none
  | n + 1, x1, x2, x3, m => M_beastOn_B2 k34 (M_beastOn_L2 k34 n) x1 x2 x3 m
def M_beastOn_B64 (rec : Int → Int → Int → Int → zM → Option (Int × zM)) (x1 : Int) (x2 : Int) (x3 : Int) (x4 : Int) (m : zM) : Option (Int × zM) :=
  rd 7 2 (m 0 13) m (fun y2 =>
  (if x4 < y2 then
  rd 1 1800 (wI ((wI (x2 + 3)) + (wI (2 * x4)))) m (fun y4 =>
  rd 1 1800 (wI ((wI (x2 + 4)) + (wI (2 * x4)))) m (fun y5 =>
  (M_pair 1 x1 x4).bind (fun r6 =>
  wr 33 1056 r6 y4 m (fun m9 =>
  (M_pair 1 x1 x4).bind (fun r10 =>
  wr 34 1056 r10 y5 m9 (fun m13 =>
  (if x3 = 0 then
  rec x1 x2 0 (wI (x4 + 1)) m13
  else (if 99 < y4 then
  rec x1 x2 0 (wI (x4 + 1)) m13
  else (if y4 < y5 then
  rec x1 x2 0 (wI (x4 + 1)) m13
  else rec x1 x2 1 (wI (x4 + 1)) m13)))))))))
  else some (x3, m)))
def M_beastOn_L64  : Nat → Int → Int → Int → Int → zM → Option (Int × zM)
  | 0, _, _, _, _, _ => none
  | n + 1, x1, x2, x3, x4, m => M_beastOn_B64 (M_beastOn_L64 n) x1 x2 x3 x4 m
def M_beastOn (x1 : Int) (x2 : Int) (m : zM) : Option (Int × zM) :=
  M_beastOn_L2 (fun x1_1 x2_1 m2 => rd 1 1800 x2_1 m2 (fun y3 =>
  rd 1 1800 (wI (x2_1 + 1)) m2 (fun y4 =>
  rd 1 1800 (wI (x2_1 + 2)) m2 (fun y5 =>
  (M_areNine y3 y4 y5).bind (fun r6 =>
  M_beastOn_L64 1000000 x1_1 x2_1 r6 0 m2))))) 1000000 x1 x2 0 m
def M_comesOn_B90 (k122 : Int → Int → Int → Int → zM → Option (Int × zM)) (rec : Int → Int → Int → Int → Int → zM → Option (Int × zM)) (x1 : Int) (x2 : Int) (x3 : Int) (x4 : Int) (x5 : Int) (m : zM) : Option (Int × zM) :=
  (if x5 < wI (x1 - 1) then
  rd 1 1800 x5 m (fun y2 =>
  lt (rmI (wI ((wI (5 * x4)) + y2)) 251) (fun v3 =>
  rec x1 x2 x3 v3 (wI (x5 + 1)) m))
  else k122 x1 x2 x3 x4 m)
def M_comesOn_L90 (k122 : Int → Int → Int → Int → zM → Option (Int × zM)) : Nat → Int → Int → Int → Int → Int → zM → Option (Int × zM)
  | 0, _, _, _, _, _, _ => none
  | n + 1, x1, x2, x3, x4, x5, m => M_comesOn_B90 k122 (M_comesOn_L90 k122 n) x1 x2 x3 x4 x5 m
def M_comesOn_B185 (k222 : Int → Int → zM → Option (Int × zM)) (rec : Int → Int → Int → zM → Option (Int × zM)) (x2 : Int) (x3 : Int) (x5 : Int) (m : zM) : Option (Int × zM) :=
  rd 7 2 (m 0 13) m (fun y2 =>
  (if x5 < y2 then
  (M_guestOn x5 (wI (5 + (wI (5 * x5)))) m).bind (fun r4 =>
  (if r4.1 = 0 then
  some (0, r4.2)
  else rec x2 x3 (wI (x5 + 1)) r4.2))
  else k222 x2 x3 m))
def M_comesOn_L185 (k222 : Int → Int → zM → Option (Int × zM)) : Nat → Int → Int → Int → zM → Option (Int × zM)
  | 0, _, _, _, _ => none
  | n + 1, x2, x3, x5, m => M_comesOn_B185 k222 (M_comesOn_L185 k222 n) x2 x3 x5 m
def M_comesOn_B225 (rec : Int → Int → Int → zM → Option (Int × zM)) (x2 : Int) (x3 : Int) (x5 : Int) (m : zM) : Option (Int × zM) :=
  rd 2 2 (m 0 13) m (fun y2 =>
  (if x5 < y2 then
  (M_beastOn x5 (wI (x2 + (wI (x3 * x5)))) m).bind (fun r4 =>
  (if r4.1 = 0 then
  some (0, r4.2)
  else rec x2 x3 (wI (x5 + 1)) r4.2))
  else some (1, m)))
def M_comesOn_L225  : Nat → Int → Int → Int → zM → Option (Int × zM)
  | 0, _, _, _, _ => none
  | n + 1, x2, x3, x5, m => M_comesOn_B225 (M_comesOn_L225 n) x2 x3 x5 m
def M_comesOn (x1 : Int) (m : zM) : Option (Int × zM) :=
  rd 7 2 (m 0 13) m (fun y2 =>
  lt (wI (5 + (wI (5 * y2)))) (fun v3 =>
  rd 7 2 (m 0 13) m (fun y5 =>
  lt (wI (3 + (wI (2 * y5)))) (fun v6 =>
  rd 2 2 (m 0 13) m (fun y8 =>
  (if x1 = wI ((wI (v3 + (wI (v6 * y8)))) + 1) then
  (M_twoBytes 0 m).bind (fun r10 =>
  (if 999 < r10 then
  some (0, m)
  else rd 1 1800 2 m (fun y14 =>
  (if y14 < 24 then
  (M_twoBytes 3 m).bind (fun r16 =>
  (if 9999 < r16 then
  some (0, m)
  else M_comesOn_L90 (fun x1_20 x2_20 x3_20 x4_20 m21 => rd 1 1800 (wI (x1_20 - 1)) m21 (fun y22 =>
  (if y22 = x4_20 then
  (M_copies 1 0 m21).bind (fun r24 =>
  (M_twoBytes 0 r24).bind (fun r27 =>
  rd 1 1800 2 r24 (fun y30 =>
  wr 27 22 1 (wI ((wI (24 * r27)) + y30)) r24 (fun m31 =>
  (M_twoBytes 3 m31).bind (fun r32 =>
  wr 28 22 1 r32 m31 (fun m35 =>
  wr 35 22 1 0 m35 (fun m36 =>
  M_comesOn_L185 (fun x2_37 x3_37 m38 => M_comesOn_L225 1000000 x2_37 x3_37 0 m38) 1000000 x2_20 x3_20 0 m36)))))))
  else some (0, m21)))) 1000000 x1 v3 v6 151 0 m))
  else some (0, m)))))
  else some (0, m)))))))
def M_on (m : zM) : Option (Int × zM) :=
  pf 0 1 0 m (fun m2 =>
  (M_comesOn (m 0 1) m2).bind (fun r3 =>
  (if r3.1 = 0 then
  (M_refuses 5 r3.2).bind (fun r7 =>
  (if r7.1 < 0 then
  some (0, r7.2)
  else some (1, r7.2)))
  else (M_copies 0 1 r3.2).bind (fun r11 =>
  pf 0 57 0 r11 (fun m14 =>
  some (1, m14))))))
