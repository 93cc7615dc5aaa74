def mul7 (m : zM) : zM := stA m 32 (rng (m 32) 7 1)
theorem gc_multi {K : zK} {cs sl S V : Nat} {m : zM} {Q : State → Prop} {lv : List (Nat × Value)} {st : List Value} {pc nx : Nat} {cc : ByteArray} {nL mc ms d : Nat} (hk : zOd K kdC cc nL RX0 mc ms d S V) (hc : cs + 8 ≤ mc) (hs : sl + 1799 ≤ ms) (hd : zdec cc pc (.multianewarray 15 2) 4 nx) (kk : GoW K (zHc K 40 (cs + 8) (mul7 m)) (cs + 8) (sl + 1799) Q lv (.ref (kB K + 32) :: st) nx) : GoW K (zHc K 32 cs m) cs sl Q lv (mI 256 :: mI 7 :: st) pc := by
  sorry
