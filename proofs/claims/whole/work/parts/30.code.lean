def fX9_find_172  (x1 : Int32) (x2 : Int32) (x3 : Int32) (x4 : Int32) (x5 : Int32) (x6 : Int32) (x7 : Int32) (M0 : xM) : Option (Int32) := if x1 = 0 then (some x2) else (if x1 = 1 then (some x3) else (if x1 = 2 then (some x4) else (if x1 = 3 then (some x5) else (if x1 = 4 then (some x6) else (some x7)))))
theorem fX9_find_172_s  (x1 : Int32) (x2 : Int32) (x3 : Int32) (x4 : Int32) (x5 : Int32) (x6 : Int32) (x7 : Int32) (M0 : xM) : fX9_find_172  x1 x2 x3 x4 x5 x6 x7 M0 = (if x1 = 0 then (some x2) else (if x1 = 1 then (some x3) else (if x1 = 2 then (some x4) else (if x1 = 3 then (some x5) else (if x1 = 4 then (some x6) else (some x7)))))) := rfl
set_option maxHeartbeats 4000000 in
set_option maxRecDepth 100000 in
theorem kX9_find_172 {p : Program} {l : Launch} {e : Env} {s : State} {m : MethodId} {args : Array Value} {below : List Frame} {meth : Method} {c : Code} {w : xT} (X : xX p s m args meth c cX9_find 11 (some .int) RX9 w) (V : Int32)  : ∀ (x1 : Int32) (x2 : Int32) (x3 : Int32) (x4 : Int32) (x5 : Int32) (x6 : Int32) (x7 : Int32) (M0 : xM) (H : Heap) (locs : List Loc) (ls : Array Slot), fX9_find_172  x1 x2 x3 x4 x5 x6 x7 M0 = some V → xP w M0 H → xS w s H locs → lv_has ls 11 [(1, .int x1), (2, .int x2), (3, .int x3), (4, .int x4), (5, .int x5), (6, .int x6), (7, .int x7)] → W p l e { frames := 1, cells := 0, slots := 0, locals := 22 } s m args below meth c H locs 0 0 (xQ w (some (.int V)) M0 below args s) (F0 m 172 ls []) := by
  have hx := X.1
  have hb := X.2.1
  have hown := X.2.2.2.2.2.1
  have hts := X.2.2.2.2.2.2.1
  intro x1 x2 x3 x4 x5 x6 x7 M0 H locs ls hm hP hS hl
  rw [fX9_find_172_s] at hm
  refine lv_iload_n hx hb dX9_find_172 rfl (lv_at hl 0 rfl) ?_
  refine lv_if_ne (tgt := 180) hx hb dX9_find_173 (by decide) (fun c1 => ?_) (fun c1 => ?_)
  · have hm := xiff c1 hm
    refine lv_iload_n hx hb dX9_find_180 rfl (lv_at hl 0 rfl) ?_
    refine lv_iconst (v := 1) hx hb dX9_find_181 (by decide) ?_
    refine lv_icmp_ne (tgt := 189) hx hb dX9_find_182 (by decide) (fun c2 => ?_) (fun c2 => ?_)
    · have hm := xiff c2 hm
      refine lv_iload_n hx hb dX9_find_189 rfl (lv_at hl 0 rfl) ?_
      refine lv_iconst (v := 2) hx hb dX9_find_190 (by decide) ?_
      refine lv_icmp_ne (tgt := 199) hx hb dX9_find_191 (by decide) (fun c3 => ?_) (fun c3 => ?_)
      · have hm := xiff c3 hm
        refine lv_iload_n hx hb dX9_find_199 rfl (lv_at hl 0 rfl) ?_
        refine lv_iconst (v := 3) hx hb dX9_find_200 (by decide) ?_
        refine lv_icmp_ne (tgt := 209) hx hb dX9_find_201 (by decide) (fun c4 => ?_) (fun c4 => ?_)
        · have hm := xiff c4 hm
          refine lv_iload_n hx hb dX9_find_209 rfl (lv_at hl 0 rfl) ?_
          refine lv_iconst (v := 4) hx hb dX9_find_210 (by decide) ?_
          refine lv_icmp_ne (tgt := 219) hx hb dX9_find_211 (by decide) (fun c5 => ?_) (fun c5 => ?_)
          · have hm := xiff c5 hm
            refine lv_iload hx hb dX9_find_219 (lv_at hl 6 rfl) ?_
            obtain rfl := Option.some.inj hm
            exact xiret X hP hS dX9_find_221
          · have hm := xift c5 hm
            refine lv_iload hx hb dX9_find_214 (lv_at hl 5 rfl) ?_
            refine lv_goto (tgt := 221) hx hb dX9_find_216 (by decide) ?_
            obtain rfl := Option.some.inj hm
            exact xiret X hP hS dX9_find_221
        · have hm := xift c4 hm
          refine lv_iload hx hb dX9_find_204 (lv_at hl 4 rfl) ?_
          refine lv_goto (tgt := 221) hx hb dX9_find_206 (by decide) ?_
          obtain rfl := Option.some.inj hm
          exact xiret X hP hS dX9_find_221
      · have hm := xift c3 hm
        refine lv_iload hx hb dX9_find_194 (lv_at hl 3 rfl) ?_
        refine lv_goto (tgt := 221) hx hb dX9_find_196 (by decide) ?_
        obtain rfl := Option.some.inj hm
        exact xiret X hP hS dX9_find_221
    · have hm := xift c2 hm
      refine lv_iload_n hx hb dX9_find_185 rfl (lv_at hl 2 rfl) ?_
      refine lv_goto (tgt := 221) hx hb dX9_find_186 (by decide) ?_
      obtain rfl := Option.some.inj hm
      exact xiret X hP hS dX9_find_221
  · have hm := xift c1 hm
    refine lv_iload_n hx hb dX9_find_176 rfl (lv_at hl 1 rfl) ?_
    refine lv_goto (tgt := 221) hx hb dX9_find_177 (by decide) ?_
    obtain rfl := Option.some.inj hm
    exact xiret X hP hS dX9_find_221
def fX9_find_166 (k33 : Int32 → Int32 → Int32 → Int32 → Int32 → Int32 → Int32 → Int32 → Int32 → xM → Option (Int32)) (x1 : Int32) (x2 : Int32) (x3 : Int32) (x4 : Int32) (x5 : Int32) (x6 : Int32) (x7 : Int32) (x8 : Int32) (x9 : Int32) (M0 : xM) : Option (Int32) := k33 x1 x2 x3 x4 x5 x6 x7 x8 (x9 + 1) M0
theorem fX9_find_166_s (k33 : Int32 → Int32 → Int32 → Int32 → Int32 → Int32 → Int32 → Int32 → Int32 → xM → Option (Int32)) (x1 : Int32) (x2 : Int32) (x3 : Int32) (x4 : Int32) (x5 : Int32) (x6 : Int32) (x7 : Int32) (x8 : Int32) (x9 : Int32) (M0 : xM) : fX9_find_166 k33 x1 x2 x3 x4 x5 x6 x7 x8 x9 M0 = (k33 x1 x2 x3 x4 x5 x6 x7 x8 (x9 + 1) M0) := rfl
set_option maxHeartbeats 4000000 in
set_option maxRecDepth 100000 in
theorem kX9_find_166 {p : Program} {l : Launch} {e : Env} {s : State} {m : MethodId} {args : Array Value} {below : List Frame} {meth : Method} {c : Code} {w : xT} (X : xX p s m args meth c cX9_find 11 (some .int) RX9 w) (V : Int32) (k33 : Int32 → Int32 → Int32 → Int32 → Int32 → Int32 → Int32 → Int32 → Int32 → xM → Option (Int32)) (hk33 : ∀ (x1 : Int32) (x2 : Int32) (x3 : Int32) (x4 : Int32) (x5 : Int32) (x6 : Int32) (x7 : Int32) (x8 : Int32) (x9 : Int32) (M : xM) (H : Heap) (locs : List Loc) (ls : Array Slot), k33 x1 x2 x3 x4 x5 x6 x7 x8 x9 M = some V → xP w M H → xS w s H locs → lv_has ls 11 [(0, .ref (xa w 37)), (1, .int x1), (2, .int x2), (3, .int x3), (4, .int x4), (5, .int x5), (6, .int x6), (7, .int x7), (8, .int x8), (9, .int x9)] → W p l e { frames := 1, cells := 0, slots := 0, locals := 22 } s m args below meth c H locs 0 0 (xQ w (some (.int V)) M below args s) (F0 m 33 ls [])) : ∀ (x1 : Int32) (x2 : Int32) (x3 : Int32) (x4 : Int32) (x5 : Int32) (x6 : Int32) (x7 : Int32) (x8 : Int32) (x9 : Int32) (M0 : xM) (H : Heap) (locs : List Loc) (ls : Array Slot), fX9_find_166 k33 x1 x2 x3 x4 x5 x6 x7 x8 x9 M0 = some V → xP w M0 H → xS w s H locs → lv_has ls 11 [(0, .ref (xa w 37)), (1, .int x1), (2, .int x2), (3, .int x3), (4, .int x4), (5, .int x5), (6, .int x6), (7, .int x7), (8, .int x8), (9, .int x9)] → W p l e { frames := 1, cells := 0, slots := 0, locals := 22 } s m args below meth c H locs 0 0 (xQ w (some (.int V)) M0 below args s) (F0 m 166 ls []) := by
  have hx := X.1
  have hb := X.2.1
  have hown := X.2.2.2.2.2.1
  have hts := X.2.2.2.2.2.2.1
  intro x1 x2 x3 x4 x5 x6 x7 x8 x9 M0 H locs ls hm hP hS hl
  rw [fX9_find_166_s] at hm
  refine lv_iinc (v := x9 + 1) (lv' := [(9, .int (x9 + 1)), (0, .ref (xa w 37)), (1, .int x1), (2, .int x2), (3, .int x3), (4, .int x4), (5, .int x5), (6, .int x6), (7, .int x7), (8, .int x8)]) hx hb dX9_find_166 hl (k := 9) rfl rfl (by decide) rfl (fun ls hl => ?_)
  refine lv_goto (tgt := 33) hx hb dX9_find_169 (by decide) ?_
  exact hk33 x1 x2 x3 x4 x5 x6 x7 x8 (x9 + 1) M0 _ _ _ hm hP hS (lv_sub hl [1, 2, 3, 4, 5, 6, 7, 8, 9, 0] rfl)
def fX9_find_164 (k33 : Int32 → Int32 → Int32 → Int32 → Int32 → Int32 → Int32 → Int32 → Int32 → xM → Option (Int32)) (x1 : Int32) (x2 : Int32) (x4 : Int32) (x5 : Int32) (x6 : Int32) (x7 : Int32) (x8 : Int32) (x9 : Int32) (s0 : Int32) (s1 : Int32) (M0 : xM) : Option (Int32) := fX9_find_166 k33 x1 x2 (s0 + s1) x4 x5 x6 x7 x8 x9 M0
theorem fX9_find_164_s (k33 : Int32 → Int32 → Int32 → Int32 → Int32 → Int32 → Int32 → Int32 → Int32 → xM → Option (Int32)) (x1 : Int32) (x2 : Int32) (x4 : Int32) (x5 : Int32) (x6 : Int32) (x7 : Int32) (x8 : Int32) (x9 : Int32) (s0 : Int32) (s1 : Int32) (M0 : xM) : fX9_find_164 k33 x1 x2 x4 x5 x6 x7 x8 x9 s0 s1 M0 = (fX9_find_166 k33 x1 x2 (s0 + s1) x4 x5 x6 x7 x8 x9 M0) := rfl
set_option maxHeartbeats 4000000 in
set_option maxRecDepth 100000 in
theorem kX9_find_164 {p : Program} {l : Launch} {e : Env} {s : State} {m : MethodId} {args : Array Value} {below : List Frame} {meth : Method} {c : Code} {w : xT} (X : xX p s m args meth c cX9_find 11 (some .int) RX9 w) (V : Int32) (k33 : Int32 → Int32 → Int32 → Int32 → Int32 → Int32 → Int32 → Int32 → Int32 → xM → Option (Int32)) (hk33 : ∀ (x1 : Int32) (x2 : Int32) (x3 : Int32) (x4 : Int32) (x5 : Int32) (x6 : Int32) (x7 : Int32) (x8 : Int32) (x9 : Int32) (M : xM) (H : Heap) (locs : List Loc) (ls : Array Slot), k33 x1 x2 x3 x4 x5 x6 x7 x8 x9 M = some V → xP w M H → xS w s H locs → lv_has ls 11 [(0, .ref (xa w 37)), (1, .int x1), (2, .int x2), (3, .int x3), (4, .int x4), (5, .int x5), (6, .int x6), (7, .int x7), (8, .int x8), (9, .int x9)] → W p l e { frames := 1, cells := 0, slots := 0, locals := 22 } s m args below meth c H locs 0 0 (xQ w (some (.int V)) M below args s) (F0 m 33 ls [])) : ∀ (x1 : Int32) (x2 : Int32) (x4 : Int32) (x5 : Int32) (x6 : Int32) (x7 : Int32) (x8 : Int32) (x9 : Int32) (s0 : Int32) (s1 : Int32) (M0 : xM) (H : Heap) (locs : List Loc) (ls : Array Slot), fX9_find_164 k33 x1 x2 x4 x5 x6 x7 x8 x9 s0 s1 M0 = some V → xP w M0 H → xS w s H locs → lv_has ls 11 [(0, .ref (xa w 37)), (1, .int x1), (2, .int x2), (4, .int x4), (5, .int x5), (6, .int x6), (7, .int x7), (8, .int x8), (9, .int x9)] → W p l e { frames := 1, cells := 0, slots := 0, locals := 22 } s m args below meth c H locs 0 0 (xQ w (some (.int V)) M0 below args s) (F0 m 164 ls [.int s1, .int s0]) := by
  have hx := X.1
  have hb := X.2.1
  have hown := X.2.2.2.2.2.1
  have hts := X.2.2.2.2.2.2.1
  intro x1 x2 x4 x5 x6 x7 x8 x9 s0 s1 M0 H locs ls hm hP hS hl
  rw [fX9_find_164_s] at hm
  refine lv_iadd hx hb dX9_find_164 ?_
  refine lv_istore_n (lv' := [(3, .int (s0 + s1)), (0, .ref (xa w 37)), (1, .int x1), (2, .int x2), (4, .int x4), (5, .int x5), (6, .int x6), (7, .int x7), (8, .int x8), (9, .int x9)]) hx hb dX9_find_165 rfl hl (by decide) rfl (fun ls hl => ?_)
  exact kX9_find_166 X V k33 hk33 x1 x2 (s0 + s1) x4 x5 x6 x7 x8 x9 M0 _ _ _ hm hP hS (lv_sub hl [1, 2, 3, 0, 4, 5, 6, 7, 8, 9] rfl)
def fX9_find_118 (k33 : Int32 → Int32 → Int32 → Int32 → Int32 → Int32 → Int32 → Int32 → Int32 → xM → Option (Int32)) (x1 : Int32) (x2 : Int32) (x3 : Int32) (x5 : Int32) (x6 : Int32) (x7 : Int32) (x8 : Int32) (x9 : Int32) (s0 : Int32) (s1 : Int32) (M0 : xM) : Option (Int32) := if xin x9 408 then xlt (x8 ||| (1 <<< ((M0 41 x9.toNatClampNeg) &&& 31))) fun y7 => fX9_find_166 k33 x1 x2 x3 (s0 + s1) x5 x6 x7 y7 x9 M0 else none
theorem fX9_find_118_s (k33 : Int32 → Int32 → Int32 → Int32 → Int32 → Int32 → Int32 → Int32 → Int32 → xM → Option (Int32)) (x1 : Int32) (x2 : Int32) (x3 : Int32) (x5 : Int32) (x6 : Int32) (x7 : Int32) (x8 : Int32) (x9 : Int32) (s0 : Int32) (s1 : Int32) (M0 : xM) : fX9_find_118 k33 x1 x2 x3 x5 x6 x7 x8 x9 s0 s1 M0 = (if xin x9 408 then xlt (x8 ||| (1 <<< ((M0 41 x9.toNatClampNeg) &&& 31))) fun y7 => fX9_find_166 k33 x1 x2 x3 (s0 + s1) x5 x6 x7 y7 x9 M0 else none) := rfl
set_option maxHeartbeats 4000000 in
set_option maxRecDepth 100000 in
theorem kX9_find_118 {p : Program} {l : Launch} {e : Env} {s : State} {m : MethodId} {args : Array Value} {below : List Frame} {meth : Method} {c : Code} {w : xT} (X : xX p s m args meth c cX9_find 11 (some .int) RX9 w) (V : Int32) (k33 : Int32 → Int32 → Int32 → Int32 → Int32 → Int32 → Int32 → Int32 → Int32 → xM → Option (Int32)) (hk33 : ∀ (x1 : Int32) (x2 : Int32) (x3 : Int32) (x4 : Int32) (x5 : Int32) (x6 : Int32) (x7 : Int32) (x8 : Int32) (x9 : Int32) (M : xM) (H : Heap) (locs : List Loc) (ls : Array Slot), k33 x1 x2 x3 x4 x5 x6 x7 x8 x9 M = some V → xP w M H → xS w s H locs → lv_has ls 11 [(0, .ref (xa w 37)), (1, .int x1), (2, .int x2), (3, .int x3), (4, .int x4), (5, .int x5), (6, .int x6), (7, .int x7), (8, .int x8), (9, .int x9)] → W p l e { frames := 1, cells := 0, slots := 0, locals := 22 } s m args below meth c H locs 0 0 (xQ w (some (.int V)) M below args s) (F0 m 33 ls [])) : ∀ (x1 : Int32) (x2 : Int32) (x3 : Int32) (x5 : Int32) (x6 : Int32) (x7 : Int32) (x8 : Int32) (x9 : Int32) (s0 : Int32) (s1 : Int32) (M0 : xM) (H : Heap) (locs : List Loc) (ls : Array Slot), fX9_find_118 k33 x1 x2 x3 x5 x6 x7 x8 x9 s0 s1 M0 = some V → xP w M0 H → xS w s H locs → lv_has ls 11 [(0, .ref (xa w 37)), (1, .int x1), (2, .int x2), (3, .int x3), (5, .int x5), (6, .int x6), (7, .int x7), (8, .int x8), (9, .int x9)] → W p l e { frames := 1, cells := 0, slots := 0, locals := 22 } s m args below meth c H locs 0 0 (xQ w (some (.int V)) M0 below args s) (F0 m 118 ls [.int s1, .int s0]) := by
  have hx := X.1
  have hb := X.2.1
  have hown := X.2.2.2.2.2.1
  have hts := X.2.2.2.2.2.2.1
  intro x1 x2 x3 x5 x6 x7 x8 x9 s0 s1 M0 H locs ls hm hP hS hl
  rw [fX9_find_118_s] at hm
  refine lv_iadd hx hb dX9_find_118 ?_
  refine lv_istore (lv' := [(4, .int (s0 + s1)), (0, .ref (xa w 37)), (1, .int x1), (2, .int x2), (3, .int x3), (5, .int x5), (6, .int x6), (7, .int x7), (8, .int x8), (9, .int x9)]) hx hb dX9_find_119 hl (by decide) rfl (fun ls hl => ?_)
  refine lv_iload hx hb dX9_find_121 (lv_at hl 8 rfl) ?_
  refine lv_iconst (v := 1) hx hb dX9_find_123 (by decide) ?_
  refine lv_aload_n hx hb dX9_find_124 rfl (lv_at hl 1 rfl) ?_
  refine xget xcX9 X hP 37 4 xy37 (by decide) xf_X9_19 rfl dX9_find_125 ?_
  refine lv_iload hx hb dX9_find_128 (lv_at hl 9 rfl) ?_
  obtain ⟨hi6, hm⟩ := xifn hm
  refine xiald X hP 41 xy41 hi6 dX9_find_130 ?_
  refine lv_ishl hx hb dX9_find_131 ?_
  refine lv_ior hx hb dX9_find_132 ?_
  refine lv_topi (fun y7 ey7 => ?_)
  have hm := xltE hm ey7
  refine lv_istore (lv' := [(8, .int y7), (4, .int (s0 + s1)), (0, .ref (xa w 37)), (1, .int x1), (2, .int x2), (3, .int x3), (5, .int x5), (6, .int x6), (7, .int x7), (9, .int x9)]) hx hb dX9_find_133 hl (by decide) rfl (fun ls hl => ?_)
  refine lv_goto (tgt := 166) hx hb dX9_find_135 (by decide) ?_
  exact kX9_find_166 X V k33 hk33 x1 x2 x3 (s0 + s1) x5 x6 x7 y7 x9 M0 _ _ _ hm hP hS (lv_sub hl [2, 3, 4, 5, 1, 6, 7, 8, 0, 9] rfl)
def fX9_find_90 (k33 : Int32 → Int32 → Int32 → Int32 → Int32 → Int32 → Int32 → Int32 → Int32 → xM → Option (Int32)) (x1 : Int32) (x2 : Int32) (x3 : Int32) (x4 : Int32) (x7 : Int32) (x8 : Int32) (x9 : Int32) (s0 : Int32) (M0 : xM) : Option (Int32) := if xin x9 408 then if ((x8 >>> ((M0 41 x9.toNatClampNeg) &&& 31)) &&& 1) = 0 then (fX9_find_118 k33 x1 x2 x3 s0 x9 x7 x8 x9 x4 1 M0) else (fX9_find_118 k33 x1 x2 x3 s0 x9 x7 x8 x9 x4 0 M0) else none
theorem fX9_find_90_s (k33 : Int32 → Int32 → Int32 → Int32 → Int32 → Int32 → Int32 → Int32 → Int32 → xM → Option (Int32)) (x1 : Int32) (x2 : Int32) (x3 : Int32) (x4 : Int32) (x7 : Int32) (x8 : Int32) (x9 : Int32) (s0 : Int32) (M0 : xM) : fX9_find_90 k33 x1 x2 x3 x4 x7 x8 x9 s0 M0 = (if xin x9 408 then if ((x8 >>> ((M0 41 x9.toNatClampNeg) &&& 31)) &&& 1) = 0 then (fX9_find_118 k33 x1 x2 x3 s0 x9 x7 x8 x9 x4 1 M0) else (fX9_find_118 k33 x1 x2 x3 s0 x9 x7 x8 x9 x4 0 M0) else none) := rfl
set_option maxHeartbeats 4000000 in
set_option maxRecDepth 100000 in
theorem kX9_find_90 {p : Program} {l : Launch} {e : Env} {s : State} {m : MethodId} {args : Array Value} {below : List Frame} {meth : Method} {c : Code} {w : xT} (X : xX p s m args meth c cX9_find 11 (some .int) RX9 w) (V : Int32) (k33 : Int32 → Int32 → Int32 → Int32 → Int32 → Int32 → Int32 → Int32 → Int32 → xM → Option (Int32)) (hk33 : ∀ (x1 : Int32) (x2 : Int32) (x3 : Int32) (x4 : Int32) (x5 : Int32) (x6 : Int32) (x7 : Int32) (x8 : Int32) (x9 : Int32) (M : xM) (H : Heap) (locs : List Loc) (ls : Array Slot), k33 x1 x2 x3 x4 x5 x6 x7 x8 x9 M = some V → xP w M H → xS w s H locs → lv_has ls 11 [(0, .ref (xa w 37)), (1, .int x1), (2, .int x2), (3, .int x3), (4, .int x4), (5, .int x5), (6, .int x6), (7, .int x7), (8, .int x8), (9, .int x9)] → W p l e { frames := 1, cells := 0, slots := 0, locals := 22 } s m args below meth c H locs 0 0 (xQ w (some (.int V)) M below args s) (F0 m 33 ls [])) : ∀ (x1 : Int32) (x2 : Int32) (x3 : Int32) (x4 : Int32) (x7 : Int32) (x8 : Int32) (x9 : Int32) (s0 : Int32) (M0 : xM) (H : Heap) (locs : List Loc) (ls : Array Slot), fX9_find_90 k33 x1 x2 x3 x4 x7 x8 x9 s0 M0 = some V → xP w M0 H → xS w s H locs → lv_has ls 11 [(0, .ref (xa w 37)), (1, .int x1), (2, .int x2), (3, .int x3), (4, .int x4), (7, .int x7), (8, .int x8), (9, .int x9)] → W p l e { frames := 1, cells := 0, slots := 0, locals := 22 } s m args below meth c H locs 0 0 (xQ w (some (.int V)) M0 below args s) (F0 m 90 ls [.int s0]) := by
  have hx := X.1
  have hb := X.2.1
  have hown := X.2.2.2.2.2.1
  have hts := X.2.2.2.2.2.2.1
  intro x1 x2 x3 x4 x7 x8 x9 s0 M0 H locs ls hm hP hS hl
  rw [fX9_find_90_s] at hm
  refine lv_istore (lv' := [(5, .int s0), (0, .ref (xa w 37)), (1, .int x1), (2, .int x2), (3, .int x3), (4, .int x4), (7, .int x7), (8, .int x8), (9, .int x9)]) hx hb dX9_find_90 hl (by decide) rfl (fun ls hl => ?_)
  refine lv_iload hx hb dX9_find_92 (lv_at hl 8 rfl) ?_
  refine lv_istore (lv' := [(6, .int x9), (5, .int s0), (0, .ref (xa w 37)), (1, .int x1), (2, .int x2), (3, .int x3), (4, .int x4), (7, .int x7), (8, .int x8), (9, .int x9)]) hx hb dX9_find_94 hl (by decide) rfl (fun ls hl => ?_)
  refine lv_iload hx hb dX9_find_96 (lv_at hl 6 rfl) ?_
  refine lv_iload hx hb dX9_find_98 (lv_at hl 8 rfl) ?_
  refine lv_aload_n hx hb dX9_find_100 rfl (lv_at hl 2 rfl) ?_
  refine xget xcX9 X hP 37 4 xy37 (by decide) xf_X9_19 rfl dX9_find_101 ?_
  refine lv_iload hx hb dX9_find_104 (lv_at hl 9 rfl) ?_
  obtain ⟨hi8, hm⟩ := xifn hm
  refine xiald X hP 41 xy41 hi8 dX9_find_106 ?_
  refine lv_ishr hx hb dX9_find_107 ?_
  refine lv_iconst (v := 1) hx hb dX9_find_108 (by decide) ?_
  refine lv_iand hx hb dX9_find_109 ?_
  refine lv_if_ne (tgt := 117) hx hb dX9_find_110 (by decide) (fun c9 => ?_) (fun c9 => ?_)
  · have hm := xiff c9 hm
    refine lv_iconst (v := 0) hx hb dX9_find_117 (by decide) ?_
    exact kX9_find_118 X V k33 hk33 x1 x2 x3 s0 x9 x7 x8 x9 x4 0 M0 _ _ _ hm hP hS (lv_sub hl [2, 3, 4, 5, 1, 0, 7, 8, 9] rfl)
  · have hm := xift c9 hm
    refine lv_iconst (v := 1) hx hb dX9_find_113 (by decide) ?_
    refine lv_goto (tgt := 118) hx hb dX9_find_114 (by decide) ?_
    exact kX9_find_118 X V k33 hk33 x1 x2 x3 s0 x9 x7 x8 x9 x4 1 M0 _ _ _ hm hP hS (lv_sub hl [2, 3, 4, 5, 1, 0, 7, 8, 9] rfl)
def fX9_find_64 (k33 : Int32 → Int32 → Int32 → Int32 → Int32 → Int32 → Int32 → Int32 → Int32 → xM → Option (Int32)) (x1 : Int32) (x2 : Int32) (x3 : Int32) (x4 : Int32) (x5 : Int32) (x6 : Int32) (x8 : Int32) (x9 : Int32) (x10 : Int32) (s0 : Int32) (M0 : xM) : Option (Int32) := if x10 = (M0 37 12) then (if 0 ≤ x5 then (fX9_find_90 k33 x1 (x2 + 1) x3 x4 s0 x8 x9 x5 M0) else (fX9_find_90 k33 x1 (x2 + 1) x3 x4 s0 x8 x9 x9 M0)) else (if xin (x9 + x10) 408 then if xin x10 40 then if (M0 47 x10.toNatClampNeg) ≤ (M0 40 (x9 + x10).toNatClampNeg) then (fX9_find_164 k33 x1 x2 x4 x5 x6 s0 x8 x9 x3 0 M0) else (fX9_find_164 k33 x1 x2 x4 x5 x6 s0 x8 x9 x3 1 M0) else none else none)
theorem fX9_find_64_s (k33 : Int32 → Int32 → Int32 → Int32 → Int32 → Int32 → Int32 → Int32 → Int32 → xM → Option (Int32)) (x1 : Int32) (x2 : Int32) (x3 : Int32) (x4 : Int32) (x5 : Int32) (x6 : Int32) (x8 : Int32) (x9 : Int32) (x10 : Int32) (s0 : Int32) (M0 : xM) : fX9_find_64 k33 x1 x2 x3 x4 x5 x6 x8 x9 x10 s0 M0 = (if x10 = (M0 37 12) then (if 0 ≤ x5 then (fX9_find_90 k33 x1 (x2 + 1) x3 x4 s0 x8 x9 x5 M0) else (fX9_find_90 k33 x1 (x2 + 1) x3 x4 s0 x8 x9 x9 M0)) else (if xin (x9 + x10) 408 then if xin x10 40 then if (M0 47 x10.toNatClampNeg) ≤ (M0 40 (x9 + x10).toNatClampNeg) then (fX9_find_164 k33 x1 x2 x4 x5 x6 s0 x8 x9 x3 0 M0) else (fX9_find_164 k33 x1 x2 x4 x5 x6 s0 x8 x9 x3 1 M0) else none else none)) := rfl
set_option maxHeartbeats 4000000 in
set_option maxRecDepth 100000 in
theorem kX9_find_64 {p : Program} {l : Launch} {e : Env} {s : State} {m : MethodId} {args : Array Value} {below : List Frame} {meth : Method} {c : Code} {w : xT} (X : xX p s m args meth c cX9_find 11 (some .int) RX9 w) (V : Int32) (k33 : Int32 → Int32 → Int32 → Int32 → Int32 → Int32 → Int32 → Int32 → Int32 → xM → Option (Int32)) (hk33 : ∀ (x1 : Int32) (x2 : Int32) (x3 : Int32) (x4 : Int32) (x5 : Int32) (x6 : Int32) (x7 : Int32) (x8 : Int32) (x9 : Int32) (M : xM) (H : Heap) (locs : List Loc) (ls : Array Slot), k33 x1 x2 x3 x4 x5 x6 x7 x8 x9 M = some V → xP w M H → xS w s H locs → lv_has ls 11 [(0, .ref (xa w 37)), (1, .int x1), (2, .int x2), (3, .int x3), (4, .int x4), (5, .int x5), (6, .int x6), (7, .int x7), (8, .int x8), (9, .int x9)] → W p l e { frames := 1, cells := 0, slots := 0, locals := 22 } s m args below meth c H locs 0 0 (xQ w (some (.int V)) M below args s) (F0 m 33 ls [])) : ∀ (x1 : Int32) (x2 : Int32) (x3 : Int32) (x4 : Int32) (x5 : Int32) (x6 : Int32) (x8 : Int32) (x9 : Int32) (x10 : Int32) (s0 : Int32) (M0 : xM) (H : Heap) (locs : List Loc) (ls : Array Slot), fX9_find_64 k33 x1 x2 x3 x4 x5 x6 x8 x9 x10 s0 M0 = some V → xP w M0 H → xS w s H locs → lv_has ls 11 [(0, .ref (xa w 37)), (1, .int x1), (2, .int x2), (3, .int x3), (4, .int x4), (5, .int x5), (6, .int x6), (8, .int x8), (9, .int x9), (10, .int x10)] → W p l e { frames := 1, cells := 0, slots := 0, locals := 22 } s m args below meth c H locs 0 0 (xQ w (some (.int V)) M0 below args s) (F0 m 64 ls [.int s0]) := by
  have hx := X.1
  have hb := X.2.1
  have hown := X.2.2.2.2.2.1
  have hts := X.2.2.2.2.2.2.1
  intro x1 x2 x3 x4 x5 x6 x8 x9 x10 s0 M0 H locs ls hm hP hS hl
  rw [fX9_find_64_s] at hm
  refine lv_istore (lv' := [(7, .int s0), (0, .ref (xa w 37)), (1, .int x1), (2, .int x2), (3, .int x3), (4, .int x4), (5, .int x5), (6, .int x6), (8, .int x8), (9, .int x9), (10, .int x10)]) hx hb dX9_find_64 hl (by decide) rfl (fun ls hl => ?_)
  refine lv_iload hx hb dX9_find_66 (lv_at hl 10 rfl) ?_
  refine lv_aload_n hx hb dX9_find_68 rfl (lv_at hl 1 rfl) ?_
  refine xgeti xcX9 X hP 37 12 xy37 (by decide) xf_X9_88 rfl dX9_find_69 ?_
  refine lv_icmp_ne (tgt := 138) hx hb dX9_find_72 (by decide) (fun c10 => ?_) (fun c10 => ?_)
  · have hm := xiff c10 hm
    refine lv_iload_n hx hb dX9_find_138 rfl (lv_at hl 4 rfl) ?_
    refine lv_aload_n hx hb dX9_find_139 rfl (lv_at hl 1 rfl) ?_
    refine xget xcX9 X hP 37 3 xy37 (by decide) xf_X9_16 rfl dX9_find_140 ?_
    refine lv_iload hx hb dX9_find_143 (lv_at hl 9 rfl) ?_
    refine lv_iload hx hb dX9_find_145 (lv_at hl 10 rfl) ?_
    refine lv_iadd hx hb dX9_find_147 ?_
    obtain ⟨hi11, hm⟩ := xifn hm
    refine xiald X hP 40 xy40 hi11 dX9_find_148 ?_
    refine lv_aload_n hx hb dX9_find_149 rfl (lv_at hl 1 rfl) ?_
    refine xget xcX9 X hP 37 11 xy37 (by decide) xf_X9_38 rfl dX9_find_150 ?_
    refine lv_iload hx hb dX9_find_153 (lv_at hl 10 rfl) ?_
    obtain ⟨hi12, hm⟩ := xifn hm
    refine xiald X hP 47 xy47 hi12 dX9_find_155 ?_
    refine lv_icmp_ge (tgt := 163) hx hb dX9_find_156 (by decide) (fun c13 => ?_) (fun c13 => ?_)
    · have hm := xift c13 hm
      refine lv_iconst (v := 0) hx hb dX9_find_163 (by decide) ?_
      exact kX9_find_164 X V k33 hk33 x1 x2 x4 x5 x6 s0 x8 x9 x3 0 M0 _ _ _ hm hP hS (lv_sub hl [1, 2, 3, 5, 6, 7, 0, 8, 9] rfl)
    · have hm := xiff c13 hm
      refine lv_iconst (v := 1) hx hb dX9_find_159 (by decide) ?_
      refine lv_goto (tgt := 164) hx hb dX9_find_160 (by decide) ?_
      exact kX9_find_164 X V k33 hk33 x1 x2 x4 x5 x6 s0 x8 x9 x3 1 M0 _ _ _ hm hP hS (lv_sub hl [1, 2, 3, 5, 6, 7, 0, 8, 9] rfl)
  · have hm := xift c10 hm
    refine lv_iinc (v := x2 + 1) (lv' := [(2, .int (x2 + 1)), (7, .int s0), (0, .ref (xa w 37)), (1, .int x1), (3, .int x3), (4, .int x4), (5, .int x5), (6, .int x6), (8, .int x8), (9, .int x9), (10, .int x10)]) hx hb dX9_find_75 hl (k := 3) rfl rfl (by decide) rfl (fun ls hl => ?_)
    refine lv_iload hx hb dX9_find_78 (lv_at hl 6 rfl) ?_
    refine lv_if_ge (tgt := 88) hx hb dX9_find_80 (by decide) (fun c14 => ?_) (fun c14 => ?_)
    · have hm := xift c14 hm
      refine lv_iload hx hb dX9_find_88 (lv_at hl 6 rfl) ?_
      exact kX9_find_90 X V k33 hk33 x1 (x2 + 1) x3 x4 s0 x8 x9 x5 M0 _ _ _ hm hP hS (lv_sub hl [2, 3, 0, 4, 5, 1, 8, 9] rfl)
    · have hm := xiff c14 hm
      refine lv_iload hx hb dX9_find_83 (lv_at hl 9 rfl) ?_
      refine lv_goto (tgt := 90) hx hb dX9_find_85 (by decide) ?_
      exact kX9_find_90 X V k33 hk33 x1 (x2 + 1) x3 x4 s0 x8 x9 x9 M0 _ _ _ hm hP hS (lv_sub hl [2, 3, 0, 4, 5, 1, 8, 9] rfl)
def fX9_find_33  : Nat → Int32 → Int32 → Int32 → Int32 → Int32 → Int32 → Int32 → Int32 → Int32 → xM → Option (Int32)
  | 0 => fun _ _ _ _ _ _ _ _ _ _ => none
  | n + 1 => fun x1 x2 x3 x4 x5 x6 x7 x8 x9 M0 => if (M0 37 6) ≤ x9 then (fX9_find_172 x1 x2 x3 x4 x5 x6 x7 M0) else ((fX9_matched x9 M0).bind fun v16 => if v16 ≤ x7 then (fX9_find_64 (fX9_find_33 n) x1 x2 x3 x4 x5 x6 x8 x9 v16 x7 M0) else (fX9_find_64 (fX9_find_33 n) x1 x2 x3 x4 x5 x6 x8 x9 v16 v16 M0))
theorem fX9_find_33_s  (n : Nat) (x1 : Int32) (x2 : Int32) (x3 : Int32) (x4 : Int32) (x5 : Int32) (x6 : Int32) (x7 : Int32) (x8 : Int32) (x9 : Int32) (M0 : xM) : fX9_find_33  (n + 1) x1 x2 x3 x4 x5 x6 x7 x8 x9 M0 = (if (M0 37 6) ≤ x9 then (fX9_find_172 x1 x2 x3 x4 x5 x6 x7 M0) else ((fX9_matched x9 M0).bind fun v16 => if v16 ≤ x7 then (fX9_find_64 (fX9_find_33 n) x1 x2 x3 x4 x5 x6 x8 x9 v16 x7 M0) else (fX9_find_64 (fX9_find_33 n) x1 x2 x3 x4 x5 x6 x8 x9 v16 v16 M0))) := rfl
set_option maxHeartbeats 4000000 in
set_option maxRecDepth 100000 in
theorem kX9_find_33 {p : Program} {l : Launch} {e : Env} {s : State} {m : MethodId} {args : Array Value} {below : List Frame} {meth : Method} {c : Code} {w : xT} (X : xX p s m args meth c cX9_find 11 (some .int) RX9 w) (V : Int32)  : ∀ (n : Nat) (x1 : Int32) (x2 : Int32) (x3 : Int32) (x4 : Int32) (x5 : Int32) (x6 : Int32) (x7 : Int32) (x8 : Int32) (x9 : Int32) (M0 : xM) (H : Heap) (locs : List Loc) (ls : Array Slot), fX9_find_33  n x1 x2 x3 x4 x5 x6 x7 x8 x9 M0 = some V → xP w M0 H → xS w s H locs → lv_has ls 11 [(0, .ref (xa w 37)), (1, .int x1), (2, .int x2), (3, .int x3), (4, .int x4), (5, .int x5), (6, .int x6), (7, .int x7), (8, .int x8), (9, .int x9)] → W p l e { frames := 1, cells := 0, slots := 0, locals := 22 } s m args below meth c H locs 0 0 (xQ w (some (.int V)) M0 below args s) (F0 m 33 ls []) := by
  have hx := X.1
  have hb := X.2.1
  have hown := X.2.2.2.2.2.1
  have hts := X.2.2.2.2.2.2.1
  intro n
  induction n with
  | zero => intro x1 x2 x3 x4 x5 x6 x7 x8 x9 M0 H locs ls hm hP hS hl; exact xnon hm
  | succ n ih =>
    intro x1 x2 x3 x4 x5 x6 x7 x8 x9 M0 H locs ls hm hP hS hl
    rw [fX9_find_33_s] at hm
    refine lv_iload hx hb dX9_find_33 (lv_at hl 9 rfl) ?_
    refine lv_aload_n hx hb dX9_find_35 rfl (lv_at hl 0 rfl) ?_
    refine xgeti xcX9 X hP 37 6 xy37 (by decide) xf_X9_48 rfl dX9_find_36 ?_
    refine lv_icmp_ge (tgt := 172) hx hb dX9_find_39 (by decide) (fun c15 => ?_) (fun c15 => ?_)
    · have hm := xift c15 hm
      exact kX9_find_172 X V  x1 x2 x3 x4 x5 x6 x7 M0 _ _ _ hm hP hS (lv_sub hl [1, 2, 3, 4, 5, 6, 7] rfl)
    · have hm := xiff c15 hm
      refine lv_aload_n hx hb dX9_find_42 rfl (lv_at hl 0 rfl) ?_
      refine lv_iload hx hb dX9_find_43 (lv_at hl 9 rfl) ?_
      obtain ⟨v16, hg, hm⟩ := xbnd hm
      refine xcallV xm_X9_91 xt_X9_matched X hP hS (qX9_matched l w x9 M0 v16 hg) xy37 rfl ⟨Nat.le_of_ble_eq_true rfl, Nat.le_of_ble_eq_true rfl⟩ ⟨rfl, rfl⟩ hl.1 rfl (rest := []) rfl (Nat.le_of_ble_eq_true rfl) dX9_find_45 ⟨Nat.zero_le _, Nat.zero_le _⟩ (fun H locs hP hS => ?_)
      refine W.eq (g2 := F0 m 48 ls [.int v16]) rfl ?_
      refine lv_istore (lv' := [(10, .int v16), (0, .ref (xa w 37)), (1, .int x1), (2, .int x2), (3, .int x3), (4, .int x4), (5, .int x5), (6, .int x6), (7, .int x7), (8, .int x8), (9, .int x9)]) hx hb dX9_find_48 hl (by decide) rfl (fun ls hl => ?_)
      refine lv_iload hx hb dX9_find_50 (lv_at hl 0 rfl) ?_
      refine lv_iload hx hb dX9_find_52 (lv_at hl 8 rfl) ?_
      refine lv_icmp_le (tgt := 62) hx hb dX9_find_54 (by decide) (fun c17 => ?_) (fun c17 => ?_)
      · have hm := xift c17 hm
        refine lv_iload hx hb dX9_find_62 (lv_at hl 8 rfl) ?_
        exact kX9_find_64 X V (fX9_find_33 n) ih x1 x2 x3 x4 x5 x6 x8 x9 v16 x7 M0 _ _ _ hm hP hS (lv_sub hl [1, 2, 3, 4, 5, 6, 7, 9, 10, 0] rfl)
      · have hm := xiff c17 hm
        refine lv_iload hx hb dX9_find_57 (lv_at hl 0 rfl) ?_
        refine lv_goto (tgt := 64) hx hb dX9_find_59 (by decide) ?_
        exact kX9_find_64 X V (fX9_find_33 n) ih x1 x2 x3 x4 x5 x6 x8 x9 v16 v16 M0 _ _ _ hm hP hS (lv_sub hl [1, 2, 3, 4, 5, 6, 7, 9, 10, 0] rfl)
def fX9_find (x1 : Int32) (M0 : xM) : Option (Int32) := if x1 < 0 then (some (-1)) else (if x1 ≤ 5 then (fX9_find_33 4096 x1 0 0 0 (-1) (-1) 0 0 0 M0) else (some (-1)))
theorem fX9_find_s (x1 : Int32) (M0 : xM) : fX9_find x1 M0 = (if x1 < 0 then (some (-1)) else (if x1 ≤ 5 then (fX9_find_33 4096 x1 0 0 0 (-1) (-1) 0 0 0 M0) else (some (-1)))) := rfl
set_option maxHeartbeats 4000000 in
set_option maxRecDepth 100000 in
theorem qX9_find (l : Launch) (w : xT) (x1 : Int32) (M0 : xM) (V : Int32) (hm : fX9_find x1 M0 = some V) : xC l yX9_find (Cond.code yX9_find cX9_find 11 (some .int)) { frames := 1, cells := 0, slots := 0, locals := 22 } w [.ref (xa w 37), .int x1] M0 (some (.int V)) M0 := by
  refine xC.of (by decide) (Nat.le_of_ble_eq_true rfl) ?_
  intro p e s m args below meth c ls X hP hS hl
  have hl : lv_has ls 11 [(0, .ref (xa w 37)), (1, .int x1)] := hl
  have X : xX p s m args meth c cX9_find 11 (some .int) RX9 w := X
  have hx := X.1
  have hb := X.2.1
  have hown := X.2.2.2.2.2.1
  have hts := X.2.2.2.2.2.2.1
  rw [fX9_find_s] at hm
  refine lv_iload_n hx hb dX9_find_0 rfl (lv_at hl 1 rfl) ?_
  refine lv_if_lt (tgt := 9) hx hb dX9_find_1 (by decide) (fun c18 => ?_) (fun c18 => ?_)
  · have hm := xift c18 hm
    refine lv_iconst (v := (-1)) hx hb dX9_find_9 (by decide) ?_
    obtain rfl := Option.some.inj hm
    exact xiret X hP hS dX9_find_10
  · have hm := xiff c18 hm
    refine lv_iload_n hx hb dX9_find_4 rfl (lv_at hl 1 rfl) ?_
    refine lv_iconst (v := 5) hx hb dX9_find_5 (by decide) ?_
    refine lv_icmp_le (tgt := 11) hx hb dX9_find_6 (by decide) (fun c19 => ?_) (fun c19 => ?_)
    · have hm := xift c19 hm
      refine lv_iconst (v := 0) hx hb dX9_find_11 (by decide) ?_
      refine lv_istore_n (lv' := [(2, .int 0), (0, .ref (xa w 37)), (1, .int x1)]) hx hb dX9_find_12 rfl hl (by decide) rfl (fun ls hl => ?_)
      refine lv_iconst (v := 0) hx hb dX9_find_13 (by decide) ?_
      refine lv_istore_n (lv' := [(3, .int 0), (2, .int 0), (0, .ref (xa w 37)), (1, .int x1)]) hx hb dX9_find_14 rfl hl (by decide) rfl (fun ls hl => ?_)
      refine lv_iconst (v := 0) hx hb dX9_find_15 (by decide) ?_
      refine lv_istore (lv' := [(4, .int 0), (3, .int 0), (2, .int 0), (0, .ref (xa w 37)), (1, .int x1)]) hx hb dX9_find_16 hl (by decide) rfl (fun ls hl => ?_)
      refine lv_iconst (v := (-1)) hx hb dX9_find_18 (by decide) ?_
      refine lv_istore (lv' := [(5, .int (-1)), (4, .int 0), (3, .int 0), (2, .int 0), (0, .ref (xa w 37)), (1, .int x1)]) hx hb dX9_find_19 hl (by decide) rfl (fun ls hl => ?_)
      refine lv_iconst (v := (-1)) hx hb dX9_find_21 (by decide) ?_
      refine lv_istore (lv' := [(6, .int (-1)), (5, .int (-1)), (4, .int 0), (3, .int 0), (2, .int 0), (0, .ref (xa w 37)), (1, .int x1)]) hx hb dX9_find_22 hl (by decide) rfl (fun ls hl => ?_)
      refine lv_iconst (v := 0) hx hb dX9_find_24 (by decide) ?_
      refine lv_istore (lv' := [(7, .int 0), (6, .int (-1)), (5, .int (-1)), (4, .int 0), (3, .int 0), (2, .int 0), (0, .ref (xa w 37)), (1, .int x1)]) hx hb dX9_find_25 hl (by decide) rfl (fun ls hl => ?_)
      refine lv_iconst (v := 0) hx hb dX9_find_27 (by decide) ?_
      refine lv_istore (lv' := [(8, .int 0), (7, .int 0), (6, .int (-1)), (5, .int (-1)), (4, .int 0), (3, .int 0), (2, .int 0), (0, .ref (xa w 37)), (1, .int x1)]) hx hb dX9_find_28 hl (by decide) rfl (fun ls hl => ?_)
      refine lv_iconst (v := 0) hx hb dX9_find_30 (by decide) ?_
      refine lv_istore (lv' := [(9, .int 0), (8, .int 0), (7, .int 0), (6, .int (-1)), (5, .int (-1)), (4, .int 0), (3, .int 0), (2, .int 0), (0, .ref (xa w 37)), (1, .int x1)]) hx hb dX9_find_31 hl (by decide) rfl (fun ls hl => ?_)
      exact kX9_find_33 X V  4096 x1 0 0 0 (-1) (-1) 0 0 0 M0 _ _ _ hm hP hS (lv_sub hl [8, 9, 7, 6, 5, 4, 3, 2, 1, 0] rfl)
    · have hm := xiff c19 hm
      refine lv_iconst (v := (-1)) hx hb dX9_find_9 (by decide) ?_
      obtain rfl := Option.some.inj hm
      exact xiret X hP hS dX9_find_10
def fX2_placeOf_69 (k18 : Int32 → Int32 → Int32 → Int32 → xM → Option (Int32)) (x2 : Int32) (x3 : Int32) (x4 : Int32) (x5 : Int32) (M0 : xM) : Option (Int32) := k18 x2 x3 x4 (x5 + 1) M0
theorem fX2_placeOf_69_s (k18 : Int32 → Int32 → Int32 → Int32 → xM → Option (Int32)) (x2 : Int32) (x3 : Int32) (x4 : Int32) (x5 : Int32) (M0 : xM) : fX2_placeOf_69 k18 x2 x3 x4 x5 M0 = (k18 x2 x3 x4 (x5 + 1) M0) := rfl
set_option maxHeartbeats 4000000 in
set_option maxRecDepth 100000 in
theorem kX2_placeOf_69 {p : Program} {l : Launch} {e : Env} {s : State} {m : MethodId} {args : Array Value} {below : List Frame} {meth : Method} {c : Code} {w : xT} (X : xX p s m args meth c cX2_placeOf 6 (some .int) RX2 w) (V : Int32) (k18 : Int32 → Int32 → Int32 → Int32 → xM → Option (Int32)) (hk18 : ∀ (x2 : Int32) (x3 : Int32) (x4 : Int32) (x5 : Int32) (M : xM) (H : Heap) (locs : List Loc) (ls : Array Slot), k18 x2 x3 x4 x5 M = some V → xP w M H → xS w s H locs → lv_has ls 6 [(0, .ref (xa w 32)), (2, .int x2), (3, .int x3), (4, .int x4), (5, .int x5)] → W p l e { frames := 3, cells := 0, slots := 0, locals := 68 } s m args below meth c H locs 0 0 (xQ w (some (.int V)) M below args s) (F0 m 18 ls [])) : ∀ (x2 : Int32) (x3 : Int32) (x4 : Int32) (x5 : Int32) (M0 : xM) (H : Heap) (locs : List Loc) (ls : Array Slot), fX2_placeOf_69 k18 x2 x3 x4 x5 M0 = some V → xP w M0 H → xS w s H locs → lv_has ls 6 [(0, .ref (xa w 32)), (2, .int x2), (3, .int x3), (4, .int x4), (5, .int x5)] → W p l e { frames := 3, cells := 0, slots := 0, locals := 68 } s m args below meth c H locs 0 0 (xQ w (some (.int V)) M0 below args s) (F0 m 69 ls []) := by
  have hx := X.1
  have hb := X.2.1
  have hown := X.2.2.2.2.2.1
  have hts := X.2.2.2.2.2.2.1
  intro x2 x3 x4 x5 M0 H locs ls hm hP hS hl
  rw [fX2_placeOf_69_s] at hm
  refine lv_iinc (v := x5 + 1) (lv' := [(5, .int (x5 + 1)), (0, .ref (xa w 32)), (2, .int x2), (3, .int x3), (4, .int x4)]) hx hb dX2_placeOf_69 hl (k := 4) rfl rfl (by decide) rfl (fun ls hl => ?_)
  refine lv_goto (tgt := 18) hx hb dX2_placeOf_72 (by decide) ?_
  exact hk18 x2 x3 x4 (x5 + 1) M0 _ _ _ hm hP hS (lv_sub hl [1, 2, 3, 4, 0] rfl)
def fX2_placeOf_18  : Nat → Int32 → Int32 → Int32 → Int32 → xM → Option (Int32)
  | 0 => fun _ _ _ _ _ => none
  | n + 1 => fun x2 x3 x4 x5 M0 => if (M0 4 4) ≤ x5 then (some (-1)) else (if xin x5 408 then if (M0 11 x5.toNatClampNeg) < x2 then (fX2_placeOf_69 (fX2_placeOf_18 n) x2 x3 x4 x5 M0) else (if xin x5 408 then if x3 ≤ (M0 11 x5.toNatClampNeg) then (fX2_placeOf_69 (fX2_placeOf_18 n) x2 x3 x4 x5 M0) else (if x4 = 0 then (some x5) else (fX2_placeOf_69 (fX2_placeOf_18 n) x2 x3 (x4 + (-1)) x5 M0)) else none) else none)
theorem fX2_placeOf_18_s  (n : Nat) (x2 : Int32) (x3 : Int32) (x4 : Int32) (x5 : Int32) (M0 : xM) : fX2_placeOf_18  (n + 1) x2 x3 x4 x5 M0 = (if (M0 4 4) ≤ x5 then (some (-1)) else (if xin x5 408 then if (M0 11 x5.toNatClampNeg) < x2 then (fX2_placeOf_69 (fX2_placeOf_18 n) x2 x3 x4 x5 M0) else (if xin x5 408 then if x3 ≤ (M0 11 x5.toNatClampNeg) then (fX2_placeOf_69 (fX2_placeOf_18 n) x2 x3 x4 x5 M0) else (if x4 = 0 then (some x5) else (fX2_placeOf_69 (fX2_placeOf_18 n) x2 x3 (x4 + (-1)) x5 M0)) else none) else none)) := rfl
set_option maxHeartbeats 4000000 in
set_option maxRecDepth 100000 in
theorem kX2_placeOf_18 {p : Program} {l : Launch} {e : Env} {s : State} {m : MethodId} {args : Array Value} {below : List Frame} {meth : Method} {c : Code} {w : xT} (X : xX p s m args meth c cX2_placeOf 6 (some .int) RX2 w) (V : Int32)  : ∀ (n : Nat) (x2 : Int32) (x3 : Int32) (x4 : Int32) (x5 : Int32) (M0 : xM) (H : Heap) (locs : List Loc) (ls : Array Slot), fX2_placeOf_18  n x2 x3 x4 x5 M0 = some V → xP w M0 H → xS w s H locs → lv_has ls 6 [(0, .ref (xa w 32)), (2, .int x2), (3, .int x3), (4, .int x4), (5, .int x5)] → W p l e { frames := 3, cells := 0, slots := 0, locals := 68 } s m args below meth c H locs 0 0 (xQ w (some (.int V)) M0 below args s) (F0 m 18 ls []) := by
  have hx := X.1
  have hb := X.2.1
  have hown := X.2.2.2.2.2.1
  have hts := X.2.2.2.2.2.2.1
  intro n
  induction n with
  | zero => intro x2 x3 x4 x5 M0 H locs ls hm hP hS hl; exact xnon hm
  | succ n ih =>
    intro x2 x3 x4 x5 M0 H locs ls hm hP hS hl
    rw [fX2_placeOf_18_s] at hm
    refine lv_iload hx hb dX2_placeOf_18 (lv_at hl 4 rfl) ?_
    refine lv_aload_n hx hb dX2_placeOf_20 rfl (lv_at hl 0 rfl) ?_
    refine xget xcX2 X hP 32 1 xy32 (by decide) xf_X2_15 rfl dX2_placeOf_21 ?_
    refine xgeti xcX7 X hP 4 4 xy4 (by decide) xf_X2_27 rfl dX2_placeOf_24 ?_
    refine lv_icmp_ge (tgt := 75) hx hb dX2_placeOf_27 (by decide) (fun c1 => ?_) (fun c1 => ?_)
    · have hm := xift c1 hm
      refine lv_iconst (v := (-1)) hx hb dX2_placeOf_75 (by decide) ?_
      obtain rfl := Option.some.inj hm
      exact xiret X hP hS dX2_placeOf_76
    · have hm := xiff c1 hm
      refine lv_aload_n hx hb dX2_placeOf_30 rfl (lv_at hl 0 rfl) ?_
      refine xget xcX2 X hP 32 2 xy32 (by decide) xf_X2_19 rfl dX2_placeOf_31 ?_
      refine xget xcX3 X hP 9 1 xy9 (by decide) xf_X2_54 rfl dX2_placeOf_34 ?_
      refine lv_iload hx hb dX2_placeOf_37 (lv_at hl 4 rfl) ?_
      obtain ⟨hi2, hm⟩ := xifn hm
      refine xiald X hP 11 xy11 hi2 dX2_placeOf_39 ?_
      refine lv_iload_n hx hb dX2_placeOf_40 rfl (lv_at hl 1 rfl) ?_
      refine lv_icmp_lt (tgt := 69) hx hb dX2_placeOf_41 (by decide) (fun c3 => ?_) (fun c3 => ?_)
      · have hm := xift c3 hm
        exact kX2_placeOf_69 X V (fX2_placeOf_18 n) ih x2 x3 x4 x5 M0 _ _ _ hm hP hS (lv_sub hl [0, 1, 2, 3, 4] rfl)
      · have hm := xiff c3 hm
        refine lv_aload_n hx hb dX2_placeOf_44 rfl (lv_at hl 0 rfl) ?_
        refine xget xcX2 X hP 32 2 xy32 (by decide) xf_X2_19 rfl dX2_placeOf_45 ?_
        refine xget xcX3 X hP 9 1 xy9 (by decide) xf_X2_54 rfl dX2_placeOf_48 ?_
        refine lv_iload hx hb dX2_placeOf_51 (lv_at hl 4 rfl) ?_
        obtain ⟨hi4, hm⟩ := xifn hm
        refine xiald X hP 11 xy11 hi4 dX2_placeOf_53 ?_
        refine lv_iload_n hx hb dX2_placeOf_54 rfl (lv_at hl 2 rfl) ?_
        refine lv_icmp_ge (tgt := 69) hx hb dX2_placeOf_55 (by decide) (fun c5 => ?_) (fun c5 => ?_)
        · have hm := xift c5 hm
          exact kX2_placeOf_69 X V (fX2_placeOf_18 n) ih x2 x3 x4 x5 M0 _ _ _ hm hP hS (lv_sub hl [0, 1, 2, 3, 4] rfl)
        · have hm := xiff c5 hm
          refine lv_iload hx hb dX2_placeOf_58 (lv_at hl 3 rfl) ?_
          refine lv_if_ne (tgt := 66) hx hb dX2_placeOf_60 (by decide) (fun c6 => ?_) (fun c6 => ?_)
          · have hm := xiff c6 hm
            refine lv_iinc (v := x4 + (-1)) (lv' := [(4, .int (x4 + (-1))), (0, .ref (xa w 32)), (2, .int x2), (3, .int x3), (5, .int x5)]) hx hb dX2_placeOf_66 hl (k := 3) rfl rfl (by decide) rfl (fun ls hl => ?_)
            exact kX2_placeOf_69 X V (fX2_placeOf_18 n) ih x2 x3 (x4 + (-1)) x5 M0 _ _ _ hm hP hS (lv_sub hl [1, 2, 3, 0, 4] rfl)
          · have hm := xift c6 hm
            refine lv_iload hx hb dX2_placeOf_63 (lv_at hl 4 rfl) ?_
            obtain rfl := Option.some.inj hm
            exact xiret X hP hS dX2_placeOf_65
def fX2_placeOf (x1 : Int32) (M0 : xM) : Option (Int32) := (fX2_firstReaching 0 M0).bind fun v7 => (fX2_firstReaching 1 M0).bind fun v8 => fX2_placeOf_18 4096 v7 v8 x1 0 M0
theorem fX2_placeOf_s (x1 : Int32) (M0 : xM) : fX2_placeOf x1 M0 = ((fX2_firstReaching 0 M0).bind fun v7 => (fX2_firstReaching 1 M0).bind fun v8 => fX2_placeOf_18 4096 v7 v8 x1 0 M0) := rfl
set_option maxHeartbeats 4000000 in
set_option maxRecDepth 100000 in
theorem qX2_placeOf (l : Launch) (w : xT) (x1 : Int32) (M0 : xM) (V : Int32) (hm : fX2_placeOf x1 M0 = some V) : xC l yX2_placeOf (Cond.code yX2_placeOf cX2_placeOf 6 (some .int)) { frames := 3, cells := 0, slots := 0, locals := 68 } w [.ref (xa w 32), .int x1] M0 (some (.int V)) M0 := by
  refine xC.of (by decide) (Nat.le_of_ble_eq_true rfl) ?_
  intro p e s m args below meth c ls X hP hS hl
  have hl : lv_has ls 6 [(0, .ref (xa w 32)), (1, .int x1)] := hl
  have X : xX p s m args meth c cX2_placeOf 6 (some .int) RX2 w := X
  have hx := X.1
  have hb := X.2.1
  have hown := X.2.2.2.2.2.1
  have hts := X.2.2.2.2.2.2.1
  rw [fX2_placeOf_s] at hm
  refine lv_aload_n hx hb dX2_placeOf_0 rfl (lv_at hl 0 rfl) ?_
  refine lv_iconst (v := 0) hx hb dX2_placeOf_1 (by decide) ?_
  obtain ⟨v7, hg, hm⟩ := xbnd hm
  refine xcallV xm_X2_51 xt_X2_firstReaching X hP hS (qX2_firstReaching l w 0 M0 v7 hg) xy32 rfl ⟨Nat.le_of_ble_eq_true rfl, Nat.le_of_ble_eq_true rfl⟩ ⟨rfl, rfl⟩ hl.1 rfl (rest := []) rfl (Nat.le_of_ble_eq_true rfl) dX2_placeOf_2 ⟨Nat.zero_le _, Nat.zero_le _⟩ (fun H locs hP hS => ?_)
  refine W.eq (g2 := F0 m 5 ls [.int v7]) rfl ?_
  refine lv_istore_n (lv' := [(2, .int v7), (0, .ref (xa w 32)), (1, .int x1)]) hx hb dX2_placeOf_5 rfl hl (by decide) rfl (fun ls hl => ?_)
  refine lv_aload_n hx hb dX2_placeOf_6 rfl (lv_at hl 1 rfl) ?_
  refine lv_iconst (v := 1) hx hb dX2_placeOf_7 (by decide) ?_
  obtain ⟨v8, hg, hm⟩ := xbnd hm
  refine xcallV xm_X2_51 xt_X2_firstReaching X hP hS (qX2_firstReaching l w 1 M0 v8 hg) xy32 rfl ⟨Nat.le_of_ble_eq_true rfl, Nat.le_of_ble_eq_true rfl⟩ ⟨rfl, rfl⟩ hl.1 rfl (rest := []) rfl (Nat.le_of_ble_eq_true rfl) dX2_placeOf_8 ⟨Nat.zero_le _, Nat.zero_le _⟩ (fun H locs hP hS => ?_)
  refine W.eq (g2 := F0 m 11 ls [.int v8]) rfl ?_
  refine lv_istore_n (lv' := [(3, .int v8), (2, .int v7), (0, .ref (xa w 32)), (1, .int x1)]) hx hb dX2_placeOf_11 rfl hl (by decide) rfl (fun ls hl => ?_)
  refine lv_iload_n hx hb dX2_placeOf_12 rfl (lv_at hl 3 rfl) ?_
  refine lv_istore (lv' := [(4, .int x1), (3, .int v8), (2, .int v7), (0, .ref (xa w 32)), (1, .int x1)]) hx hb dX2_placeOf_13 hl (by decide) rfl (fun ls hl => ?_)
  refine lv_iconst (v := 0) hx hb dX2_placeOf_15 (by decide) ?_
  refine lv_istore (lv' := [(5, .int 0), (4, .int x1), (3, .int v8), (2, .int v7), (0, .ref (xa w 32)), (1, .int x1)]) hx hb dX2_placeOf_16 hl (by decide) rfl (fun ls hl => ?_)
  exact kX2_placeOf_18 X V  4096 v7 v8 x1 0 M0 _ _ _ hm hP hS (lv_sub hl [4, 3, 2, 1, 0] rfl)
def fX8_where (x1 : Int32) (M0 : xM) : Option (Int32) := if 0 ≤ x1 then ((fX2_placeOf x1 M0).bind fun v2 => some v2) else (some (-1))
theorem fX8_where_s (x1 : Int32) (M0 : xM) : fX8_where x1 M0 = (if 0 ≤ x1 then ((fX2_placeOf x1 M0).bind fun v2 => some v2) else (some (-1))) := rfl
set_option maxHeartbeats 4000000 in
set_option maxRecDepth 100000 in
theorem qX8_where (l : Launch) (w : xT) (x1 : Int32) (M0 : xM) (V : Int32) (hm : fX8_where x1 M0 = some V) : xC l yX8_where (Cond.code yX8_where cX8_where 2 (some .int)) { frames := 4, cells := 0, slots := 0, locals := 93 } w [.ref (xa w 0), .int x1] M0 (some (.int V)) M0 := by
  refine xC.of (by decide) (Nat.le_of_ble_eq_true rfl) ?_
  intro p e s m args below meth c ls X hP hS hl
  have hl : lv_has ls 2 [(0, .ref (xa w 0)), (1, .int x1)] := hl
  have X : xX p s m args meth c cX8_where 2 (some .int) RX8 w := X
  have hx := X.1
  have hb := X.2.1
  have hown := X.2.2.2.2.2.1
  have hts := X.2.2.2.2.2.2.1
  rw [fX8_where_s] at hm
  refine lv_iload_n hx hb dX8_where_0 rfl (lv_at hl 1 rfl) ?_
  refine lv_if_ge (tgt := 8) hx hb dX8_where_1 (by decide) (fun c1 => ?_) (fun c1 => ?_)
  · have hm := xift c1 hm
    refine lv_aload_n hx hb dX8_where_8 rfl (lv_at hl 0 rfl) ?_
    refine xget xcX8 X hP 0 4 xy0 (by decide) xf_X8_44 rfl dX8_where_9 ?_
    refine lv_iload_n hx hb dX8_where_12 rfl (lv_at hl 1 rfl) ?_
    obtain ⟨v2, hg, hm⟩ := xbnd hm
    refine xcallV xm_X8_157 xt_X2_placeOf X hP hS (qX2_placeOf l w x1 M0 v2 hg) xy32 rfl ⟨Nat.le_of_ble_eq_true rfl, Nat.le_of_ble_eq_true rfl⟩ ⟨rfl, rfl⟩ hl.1 rfl (rest := []) rfl (Nat.le_of_ble_eq_true rfl) dX8_where_13 ⟨Nat.zero_le _, Nat.zero_le _⟩ (fun H locs hP hS => ?_)
    refine W.eq (g2 := F0 m 16 ls [.int v2]) rfl ?_
    obtain rfl := Option.some.inj hm
    exact xiret X hP hS dX8_where_16
  · have hm := xiff c1 hm
    refine lv_iconst (v := (-1)) hx hb dX8_where_4 (by decide) ?_
    refine lv_goto (tgt := 16) hx hb dX8_where_5 (by decide) ?_
    obtain rfl := Option.some.inj hm
    exact xiret X hP hS dX8_where_16
def fX9_where_38 (k4 : Int32 → Int32 → Int32 → xM → Option (Int32)) (x1 : Int32) (x2 : Int32) (x3 : Int32) (M0 : xM) : Option (Int32) := k4 x1 x2 (x3 + 1) M0
theorem fX9_where_38_s (k4 : Int32 → Int32 → Int32 → xM → Option (Int32)) (x1 : Int32) (x2 : Int32) (x3 : Int32) (M0 : xM) : fX9_where_38 k4 x1 x2 x3 M0 = (k4 x1 x2 (x3 + 1) M0) := rfl
set_option maxHeartbeats 4000000 in
set_option maxRecDepth 100000 in
theorem kX9_where_38 {p : Program} {l : Launch} {e : Env} {s : State} {m : MethodId} {args : Array Value} {below : List Frame} {meth : Method} {c : Code} {w : xT} (X : xX p s m args meth c cX9_where 4 (some .int) RX9 w) (V : Int32) (k4 : Int32 → Int32 → Int32 → xM → Option (Int32)) (hk4 : ∀ (x1 : Int32) (x2 : Int32) (x3 : Int32) (M : xM) (H : Heap) (locs : List Loc) (ls : Array Slot), k4 x1 x2 x3 M = some V → xP w M H → xS w s H locs → lv_has ls 4 [(0, .ref (xa w 37)), (1, .int x1), (2, .int x2), (3, .int x3)] → W p l e { frames := 1, cells := 0, slots := 0, locals := 22 } s m args below meth c H locs 0 0 (xQ w (some (.int V)) M below args s) (F0 m 4 ls [])) : ∀ (x1 : Int32) (x2 : Int32) (x3 : Int32) (M0 : xM) (H : Heap) (locs : List Loc) (ls : Array Slot), fX9_where_38 k4 x1 x2 x3 M0 = some V → xP w M0 H → xS w s H locs → lv_has ls 4 [(0, .ref (xa w 37)), (1, .int x1), (2, .int x2), (3, .int x3)] → W p l e { frames := 1, cells := 0, slots := 0, locals := 22 } s m args below meth c H locs 0 0 (xQ w (some (.int V)) M0 below args s) (F0 m 38 ls []) := by
  have hx := X.1
  have hb := X.2.1
  have hown := X.2.2.2.2.2.1
  have hts := X.2.2.2.2.2.2.1
  intro x1 x2 x3 M0 H locs ls hm hP hS hl
  rw [fX9_where_38_s] at hm
  refine lv_iinc (v := x3 + 1) (lv' := [(3, .int (x3 + 1)), (0, .ref (xa w 37)), (1, .int x1), (2, .int x2)]) hx hb dX9_where_38 hl (k := 3) rfl rfl (by decide) rfl (fun ls hl => ?_)
  refine lv_goto (tgt := 4) hx hb dX9_where_41 (by decide) ?_
  exact hk4 x1 x2 (x3 + 1) M0 _ _ _ hm hP hS (lv_sub hl [1, 2, 3, 0] rfl)
def fX9_where_4  : Nat → Int32 → Int32 → Int32 → xM → Option (Int32)
  | 0 => fun _ _ _ _ => none
  | n + 1 => fun x1 x2 x3 M0 => if (M0 37 6) ≤ x3 then (some (-1)) else (if x1 < 0 then (some (-1)) else ((fX9_matched x3 M0).bind fun v3 => if v3 = (M0 37 12) then (if x2 = x1 then (some x3) else (fX9_where_38 (fX9_where_4 n) x1 (x2 + 1) x3 M0)) else (fX9_where_38 (fX9_where_4 n) x1 x2 x3 M0)))
theorem fX9_where_4_s  (n : Nat) (x1 : Int32) (x2 : Int32) (x3 : Int32) (M0 : xM) : fX9_where_4  (n + 1) x1 x2 x3 M0 = (if (M0 37 6) ≤ x3 then (some (-1)) else (if x1 < 0 then (some (-1)) else ((fX9_matched x3 M0).bind fun v3 => if v3 = (M0 37 12) then (if x2 = x1 then (some x3) else (fX9_where_38 (fX9_where_4 n) x1 (x2 + 1) x3 M0)) else (fX9_where_38 (fX9_where_4 n) x1 x2 x3 M0)))) := rfl
set_option maxHeartbeats 4000000 in
set_option maxRecDepth 100000 in
theorem kX9_where_4 {p : Program} {l : Launch} {e : Env} {s : State} {m : MethodId} {args : Array Value} {below : List Frame} {meth : Method} {c : Code} {w : xT} (X : xX p s m args meth c cX9_where 4 (some .int) RX9 w) (V : Int32)  : ∀ (n : Nat) (x1 : Int32) (x2 : Int32) (x3 : Int32) (M0 : xM) (H : Heap) (locs : List Loc) (ls : Array Slot), fX9_where_4  n x1 x2 x3 M0 = some V → xP w M0 H → xS w s H locs → lv_has ls 4 [(0, .ref (xa w 37)), (1, .int x1), (2, .int x2), (3, .int x3)] → W p l e { frames := 1, cells := 0, slots := 0, locals := 22 } s m args below meth c H locs 0 0 (xQ w (some (.int V)) M0 below args s) (F0 m 4 ls []) := by
  have hx := X.1
  have hb := X.2.1
  have hown := X.2.2.2.2.2.1
  have hts := X.2.2.2.2.2.2.1
  intro n
  induction n with
  | zero => intro x1 x2 x3 M0 H locs ls hm hP hS hl; exact xnon hm
  | succ n ih =>
    intro x1 x2 x3 M0 H locs ls hm hP hS hl
    rw [fX9_where_4_s] at hm
    refine lv_iload_n hx hb dX9_where_4 rfl (lv_at hl 3 rfl) ?_
    refine lv_aload_n hx hb dX9_where_5 rfl (lv_at hl 0 rfl) ?_
    refine xgeti xcX9 X hP 37 6 xy37 (by decide) xf_X9_48 rfl dX9_where_6 ?_
    refine lv_icmp_ge (tgt := 44) hx hb dX9_where_9 (by decide) (fun c1 => ?_) (fun c1 => ?_)
    · have hm := xift c1 hm
      refine lv_iconst (v := (-1)) hx hb dX9_where_44 (by decide) ?_
      obtain rfl := Option.some.inj hm
      exact xiret X hP hS dX9_where_45
    · have hm := xiff c1 hm
      refine lv_iload_n hx hb dX9_where_12 rfl (lv_at hl 1 rfl) ?_
      refine lv_if_lt (tgt := 44) hx hb dX9_where_13 (by decide) (fun c2 => ?_) (fun c2 => ?_)
      · have hm := xift c2 hm
        refine lv_iconst (v := (-1)) hx hb dX9_where_44 (by decide) ?_
        obtain rfl := Option.some.inj hm
        exact xiret X hP hS dX9_where_45
      · have hm := xiff c2 hm
        refine lv_aload_n hx hb dX9_where_16 rfl (lv_at hl 0 rfl) ?_
        refine lv_iload_n hx hb dX9_where_17 rfl (lv_at hl 3 rfl) ?_
        obtain ⟨v3, hg, hm⟩ := xbnd hm
        refine xcallV xm_X9_91 xt_X9_matched X hP hS (qX9_matched l w x3 M0 v3 hg) xy37 rfl ⟨Nat.le_of_ble_eq_true rfl, Nat.le_of_ble_eq_true rfl⟩ ⟨rfl, rfl⟩ hl.1 rfl (rest := []) rfl (Nat.le_of_ble_eq_true rfl) dX9_where_18 ⟨Nat.zero_le _, Nat.zero_le _⟩ (fun H locs hP hS => ?_)
        refine W.eq (g2 := F0 m 21 ls [.int v3]) rfl ?_
        refine lv_aload_n hx hb dX9_where_21 rfl (lv_at hl 0 rfl) ?_
        refine xgeti xcX9 X hP 37 12 xy37 (by decide) xf_X9_88 rfl dX9_where_22 ?_
        refine lv_icmp_ne (tgt := 38) hx hb dX9_where_25 (by decide) (fun c4 => ?_) (fun c4 => ?_)
        · have hm := xiff c4 hm
          exact kX9_where_38 X V (fX9_where_4 n) ih x1 x2 x3 M0 _ _ _ hm hP hS (lv_sub hl [0, 1, 2, 3] rfl)
        · have hm := xift c4 hm
          refine lv_iload_n hx hb dX9_where_28 rfl (lv_at hl 2 rfl) ?_
          refine lv_iload_n hx hb dX9_where_29 rfl (lv_at hl 1 rfl) ?_
          refine lv_icmp_ne (tgt := 35) hx hb dX9_where_30 (by decide) (fun c5 => ?_) (fun c5 => ?_)
          · have hm := xiff c5 hm
            refine lv_iinc (v := x2 + 1) (lv' := [(2, .int (x2 + 1)), (0, .ref (xa w 37)), (1, .int x1), (3, .int x3)]) hx hb dX9_where_35 hl (k := 2) rfl rfl (by decide) rfl (fun ls hl => ?_)
            exact kX9_where_38 X V (fX9_where_4 n) ih x1 (x2 + 1) x3 M0 _ _ _ hm hP hS (lv_sub hl [1, 2, 0, 3] rfl)
          · have hm := xift c5 hm
            refine lv_iload_n hx hb dX9_where_33 rfl (lv_at hl 3 rfl) ?_
            obtain rfl := Option.some.inj hm
            exact xiret X hP hS dX9_where_34
def fX9_where (x1 : Int32) (M0 : xM) : Option (Int32) := fX9_where_4 4096 x1 0 0 M0
theorem fX9_where_s (x1 : Int32) (M0 : xM) : fX9_where x1 M0 = (fX9_where_4 4096 x1 0 0 M0) := rfl
set_option maxHeartbeats 4000000 in
set_option maxRecDepth 100000 in
theorem qX9_where (l : Launch) (w : xT) (x1 : Int32) (M0 : xM) (V : Int32) (hm : fX9_where x1 M0 = some V) : xC l yX9_where (Cond.code yX9_where cX9_where 4 (some .int)) { frames := 1, cells := 0, slots := 0, locals := 22 } w [.ref (xa w 37), .int x1] M0 (some (.int V)) M0 := by
  refine xC.of (by decide) (Nat.le_of_ble_eq_true rfl) ?_
  intro p e s m args below meth c ls X hP hS hl
  have hl : lv_has ls 4 [(0, .ref (xa w 37)), (1, .int x1)] := hl
  have X : xX p s m args meth c cX9_where 4 (some .int) RX9 w := X
  have hx := X.1
  have hb := X.2.1
  have hown := X.2.2.2.2.2.1
  have hts := X.2.2.2.2.2.2.1
  rw [fX9_where_s] at hm
  refine lv_iconst (v := 0) hx hb dX9_where_0 (by decide) ?_
  refine lv_istore_n (lv' := [(2, .int 0), (0, .ref (xa w 37)), (1, .int x1)]) hx hb dX9_where_1 rfl hl (by decide) rfl (fun ls hl => ?_)
  refine lv_iconst (v := 0) hx hb dX9_where_2 (by decide) ?_
  refine lv_istore_n (lv' := [(3, .int 0), (2, .int 0), (0, .ref (xa w 37)), (1, .int x1)]) hx hb dX9_where_3 rfl hl (by decide) rfl (fun ls hl => ?_)
  exact kX9_where_4 X V  4096 x1 0 0 M0 _ _ _ hm hP hS (lv_sub hl [2, 3, 1, 0] rfl)
def fX5_countAll_4  : Nat → Int64 → Int32 → xM → Option (Int64)
  | 0 => fun _ _ _ => none
  | n + 1 => fun x1 x3 M0 => if (M0 4 4) ≤ x3 then (some x1) else (if xin x3 408 then (fX7_signsFrom (M0 10 x3.toNatClampNeg) M0).bind fun v3 => if xin x3 408 then fX5_countAll_4 n (x1 + ((v3 - (M0 12 x3.toNatClampNeg)).toInt64)) (x3 + 1) M0 else none else none)
theorem fX5_countAll_4_s  (n : Nat) (x1 : Int64) (x3 : Int32) (M0 : xM) : fX5_countAll_4  (n + 1) x1 x3 M0 = (if (M0 4 4) ≤ x3 then (some x1) else (if xin x3 408 then (fX7_signsFrom (M0 10 x3.toNatClampNeg) M0).bind fun v3 => if xin x3 408 then fX5_countAll_4 n (x1 + ((v3 - (M0 12 x3.toNatClampNeg)).toInt64)) (x3 + 1) M0 else none else none)) := rfl
set_option maxHeartbeats 4000000 in
set_option maxRecDepth 100000 in
theorem kX5_countAll_4 {p : Program} {l : Launch} {e : Env} {s : State} {m : MethodId} {args : Array Value} {below : List Frame} {meth : Method} {c : Code} {w : xT} (X : xX p s m args meth c cX5_countAll 4 (some .long) RX5 w) (V : Int64)  : ∀ (n : Nat) (x1 : Int64) (x3 : Int32) (M0 : xM) (H : Heap) (locs : List Loc) (ls : Array Slot), fX5_countAll_4  n x1 x3 M0 = some V → xP w M0 H → xS w s H locs → lv_has ls 4 [(0, .ref (xa w 34)), (1, .long x1), (3, .int x3)] → W p l e { frames := 1, cells := 0, slots := 0, locals := 21 } s m args below meth c H locs 0 0 (xQ w (some (.long V)) M0 below args s) (F0 m 4 ls []) := by
  have hx := X.1
  have hb := X.2.1
  have hown := X.2.2.2.2.2.1
  have hts := X.2.2.2.2.2.2.1
  intro n
  induction n with
  | zero => intro x1 x3 M0 H locs ls hm hP hS hl; exact xnon hm
  | succ n ih =>
    intro x1 x3 M0 H locs ls hm hP hS hl
    rw [fX5_countAll_4_s] at hm
    refine lv_iload_n hx hb dX5_countAll_4 rfl (lv_at hl 2 rfl) ?_
    refine lv_aload_n hx hb dX5_countAll_5 rfl (lv_at hl 0 rfl) ?_
    refine xget xcX5 X hP 34 0 xy34 (by decide) xf_X5_9 rfl dX5_countAll_6 ?_
    refine xgeti xcX7 X hP 4 4 xy4 (by decide) xf_X5_19 rfl dX5_countAll_9 ?_
    refine lv_icmp_ge (tgt := 51) hx hb dX5_countAll_12 (by decide) (fun c1 => ?_) (fun c1 => ?_)
    · have hm := xift c1 hm
      refine lv_lload_n hx hb dX5_countAll_51 rfl (lv_at hl 1 rfl) ?_
      obtain rfl := Option.some.inj hm
      exact xlret X hP hS dX5_countAll_52
    · have hm := xiff c1 hm
      refine lv_lload_n hx hb dX5_countAll_15 rfl (lv_at hl 1 rfl) ?_
      refine lv_aload_n hx hb dX5_countAll_16 rfl (lv_at hl 0 rfl) ?_
      refine xget xcX5 X hP 34 0 xy34 (by decide) xf_X5_9 rfl dX5_countAll_17 ?_
      refine lv_aload_n hx hb dX5_countAll_20 rfl (lv_at hl 0 rfl) ?_
      refine xget xcX5 X hP 34 1 xy34 (by decide) xf_X5_15 rfl dX5_countAll_21 ?_
      refine xget xcX3 X hP 9 0 xy9 (by decide) xf_X5_25 rfl dX5_countAll_24 ?_
      refine lv_iload_n hx hb dX5_countAll_27 rfl (lv_at hl 2 rfl) ?_
      obtain ⟨hi2, hm⟩ := xifn hm
      refine xiald X hP 10 xy10 hi2 dX5_countAll_28 ?_
      obtain ⟨v3, hg, hm⟩ := xbnd hm
      refine xcallV xm_X5_31 xt_X7_signsFrom X hP hS (qX7_signsFrom l w (M0 10 x3.toNatClampNeg) M0 v3 hg) xy4 rfl ⟨Nat.le_of_ble_eq_true rfl, Nat.le_of_ble_eq_true rfl⟩ ⟨rfl, rfl⟩ hl.1 rfl (rest := [.long x1]) rfl (Nat.le_of_ble_eq_true rfl) dX5_countAll_29 ⟨Nat.zero_le _, Nat.zero_le _⟩ (fun H locs hP hS => ?_)
      refine W.eq (g2 := F0 m 32 ls [.int v3, .long x1]) rfl ?_
      refine lv_aload_n hx hb dX5_countAll_32 rfl (lv_at hl 0 rfl) ?_
      refine xget xcX5 X hP 34 1 xy34 (by decide) xf_X5_15 rfl dX5_countAll_33 ?_
      refine xget xcX3 X hP 9 2 xy9 (by decide) xf_X5_35 rfl dX5_countAll_36 ?_
      refine lv_iload_n hx hb dX5_countAll_39 rfl (lv_at hl 2 rfl) ?_
      obtain ⟨hi4, hm⟩ := xifn hm
      refine xiald X hP 12 xy12 hi4 dX5_countAll_40 ?_
      refine lv_isub hx hb dX5_countAll_41 ?_
      refine lv_i2l hx hb dX5_countAll_42 rfl ?_
      refine lv_ladd hx hb dX5_countAll_43 ?_
      refine lv_lstore_n (lv' := [(1, .long (x1 + ((v3 - (M0 12 x3.toNatClampNeg)).toInt64))), (0, .ref (xa w 34)), (3, .int x3)]) hx hb dX5_countAll_44 rfl hl (by decide) rfl (fun ls hl => ?_)
      refine lv_iinc (v := x3 + 1) (lv' := [(3, .int (x3 + 1)), (1, .long (x1 + ((v3 - (M0 12 x3.toNatClampNeg)).toInt64))), (0, .ref (xa w 34))]) hx hb dX5_countAll_45 hl (k := 2) rfl rfl (by decide) rfl (fun ls hl => ?_)
      refine lv_goto (tgt := 4) hx hb dX5_countAll_48 (by decide) ?_
      exact ih (x1 + ((v3 - (M0 12 x3.toNatClampNeg)).toInt64)) (x3 + 1) M0 _ _ _ hm hP hS (lv_sub hl [2, 1, 0] rfl)
def fX5_countAll  (M0 : xM) : Option (Int64) := fX5_countAll_4 4096 0 0 M0
theorem fX5_countAll_s  (M0 : xM) : fX5_countAll M0 = (fX5_countAll_4 4096 0 0 M0) := rfl
set_option maxHeartbeats 4000000 in
set_option maxRecDepth 100000 in
theorem qX5_countAll (l : Launch) (w : xT)  (M0 : xM) (V : Int64) (hm : fX5_countAll M0 = some V) : xC l yX5_countAll (Cond.code yX5_countAll cX5_countAll 4 (some .long)) { frames := 1, cells := 0, slots := 0, locals := 21 } w [.ref (xa w 34)] M0 (some (.long V)) M0 := by
  refine xC.of (by decide) (Nat.le_of_ble_eq_true rfl) ?_
  intro p e s m args below meth c ls X hP hS hl
  have hl : lv_has ls 4 [(0, .ref (xa w 34))] := hl
  have X : xX p s m args meth c cX5_countAll 4 (some .long) RX5 w := X
  have hx := X.1
  have hb := X.2.1
  have hown := X.2.2.2.2.2.1
  have hts := X.2.2.2.2.2.2.1
  rw [fX5_countAll_s] at hm
  refine lv_lconst (v := 0) hx hb dX5_countAll_0 (by decide) ?_
  refine lv_lstore_n (lv' := [(1, .long 0), (0, .ref (xa w 34))]) hx hb dX5_countAll_1 rfl hl (by decide) rfl (fun ls hl => ?_)
  refine lv_iconst (v := 0) hx hb dX5_countAll_2 (by decide) ?_
  refine lv_istore_n (lv' := [(3, .int 0), (1, .long 0), (0, .ref (xa w 34))]) hx hb dX5_countAll_3 rfl hl (by decide) rfl (fun ls hl => ?_)
  exact kX5_countAll_4 X V  4096 0 0 M0 _ _ _ hm hP hS (lv_sub hl [2, 1, 0] rfl)
def fX8_different  (M0 : xM) : Option (Int64) := (fX5_countAll  M0).bind fun v1 => some v1
theorem fX8_different_s  (M0 : xM) : fX8_different M0 = ((fX5_countAll  M0).bind fun v1 => some v1) := rfl
set_option maxHeartbeats 4000000 in
set_option maxRecDepth 100000 in
theorem qX8_different (l : Launch) (w : xT)  (M0 : xM) (V : Int64) (hm : fX8_different M0 = some V) : xC l yX8_different (Cond.code yX8_different cX8_different 1 (some .long)) { frames := 2, cells := 0, slots := 0, locals := 44 } w [.ref (xa w 0)] M0 (some (.long V)) M0 := by
  refine xC.of (by decide) (Nat.le_of_ble_eq_true rfl) ?_
  intro p e s m args below meth c ls X hP hS hl
  have hl : lv_has ls 1 [(0, .ref (xa w 0))] := hl
  have X : xX p s m args meth c cX8_different 1 (some .long) RX8 w := X
  have hx := X.1
  have hb := X.2.1
  have hown := X.2.2.2.2.2.1
  have hts := X.2.2.2.2.2.2.1
  rw [fX8_different_s] at hm
  refine lv_aload_n hx hb dX8_different_0 rfl (lv_at hl 0 rfl) ?_
  refine xget xcX8 X hP 0 5 xy0 (by decide) xf_X8_51 rfl dX8_different_1 ?_
  obtain ⟨v1, hg, hm⟩ := xbnd hm
  refine xcallV xm_X8_160 xt_X5_countAll X hP hS (qX5_countAll l w  M0 v1 hg) xy34 rfl ⟨Nat.le_of_ble_eq_true rfl, Nat.le_of_ble_eq_true rfl⟩ ⟨rfl, rfl⟩ hl.1 rfl (rest := []) rfl (Nat.le_of_ble_eq_true rfl) dX8_different_4 ⟨Nat.zero_le _, Nat.zero_le _⟩ (fun H locs hP hS => ?_)
  refine W.eq (g2 := F0 m 7 ls [.long v1]) rfl ?_
  obtain rfl := Option.some.inj hm
  exact xlret X hP hS dX8_different_7
