def fX9_build_337   (M : xM) : Option (Int32 × xM) := some (M 37 6, M)
theorem fX9_build_337_s   (M : xM) : fX9_build_337  M = (some (M 37 6, M)) := rfl
set_option maxHeartbeats 4000000 in
set_option maxRecDepth 100000 in
theorem kX9_build_337 {p : Program} {l : Launch} {e : Env} {s : State} {m : MethodId} {args : Array Value} {below : List Frame} {meth : Method} {c : Code} {w : xT} (X : xX p s m args meth c cX9_build 4 (some .int) RX9 w) (V : Int32 × xM)  : ∀  (M : xM) (H : Heap) (locs : List Loc) (ls : Array Slot), fX9_build_337  M = some V → xP w M H → xS w s H locs → lv_has ls 4 [(0, .ref (xa w 37))] → W p l e { frames := 2, cells := 0, slots := 0, locals := 47 } s m args below meth c H locs 0 0 (xQ w (some (.int V.1)) V.2 below args s) (F0 m 337 ls []) := by
  have hx := X.1
  have hb := X.2.1
  have hown := X.2.2.2.2.2.1
  have hts := X.2.2.2.2.2.2.1
  intro M H locs ls hm hP hS hl
  rw [fX9_build_337_s] at hm
  refine lv_aload_n hx hb dX9_build_337 rfl (lv_at hl 0 rfl) ?_
  refine xgeti xcX9 X hP 37 6 xy37 (by decide) xf_X9_48 rfl dX9_build_338 ?_
  obtain rfl := Option.some.inj hm
  exact xiret X hP hS dX9_build_341
def fX9_build_299  : Nat → Int32 → xM → Option (Int32 × xM)
  | 0 => fun _ _ => none
  | n + 1 => fun x1 M => if (M 37 6) ≤ x1 then (fX9_build_337  M) else (if xin x1 408 then if xin (M 44 x1.toNatClampNeg) 408 then xlt (xs1 M 45 (M 44 x1.toNatClampNeg).toNatClampNeg x1) fun M4 => if xin x1 408 then if xin x1 408 then xlt (xs1 M4 46 x1.toNatClampNeg (M4 44 x1.toNatClampNeg)) fun M7 => fX9_build_299 n (x1 + 1) M7 else none else none else none else none)
theorem fX9_build_299_s  (n : Nat) (x1 : Int32) (M : xM) : fX9_build_299  (n + 1) x1 M = (if (M 37 6) ≤ x1 then (fX9_build_337  M) else (if xin x1 408 then if xin (M 44 x1.toNatClampNeg) 408 then xlt (xs1 M 45 (M 44 x1.toNatClampNeg).toNatClampNeg x1) fun M4 => if xin x1 408 then if xin x1 408 then xlt (xs1 M4 46 x1.toNatClampNeg (M4 44 x1.toNatClampNeg)) fun M7 => fX9_build_299 n (x1 + 1) M7 else none else none else none else none)) := rfl
set_option maxHeartbeats 4000000 in
set_option maxRecDepth 100000 in
theorem kX9_build_299 {p : Program} {l : Launch} {e : Env} {s : State} {m : MethodId} {args : Array Value} {below : List Frame} {meth : Method} {c : Code} {w : xT} (X : xX p s m args meth c cX9_build 4 (some .int) RX9 w) (V : Int32 × xM)  : ∀ (n : Nat) (x1 : Int32) (M : xM) (H : Heap) (locs : List Loc) (ls : Array Slot), fX9_build_299  n x1 M = some V → xP w M H → xS w s H locs → lv_has ls 4 [(0, .ref (xa w 37)), (1, .int x1)] → W p l e { frames := 2, cells := 0, slots := 0, locals := 47 } s m args below meth c H locs 0 0 (xQ w (some (.int V.1)) V.2 below args s) (F0 m 299 ls []) := by
  have hx := X.1
  have hb := X.2.1
  have hown := X.2.2.2.2.2.1
  have hts := X.2.2.2.2.2.2.1
  intro n
  induction n with
  | zero => intro x1 M H locs ls hm hP hS hl; exact xnon hm
  | succ n ih =>
    intro x1 M H locs ls hm hP hS hl
    rw [fX9_build_299_s] at hm
    refine lv_iload_n hx hb dX9_build_299 rfl (lv_at hl 1 rfl) ?_
    refine lv_aload_n hx hb dX9_build_300 rfl (lv_at hl 0 rfl) ?_
    refine xgeti xcX9 X hP 37 6 xy37 (by decide) xf_X9_48 rfl dX9_build_301 ?_
    refine lv_icmp_ge (tgt := 337) hx hb dX9_build_304 (by decide) (fun c1 => ?_) (fun c1 => ?_)
    · have hm := xift c1 hm
      exact kX9_build_337 X V  M _ _ _ hm hP hS (lv_sub hl [0] rfl)
    · have hm := xiff c1 hm
      refine lv_aload_n hx hb dX9_build_307 rfl (lv_at hl 0 rfl) ?_
      refine xget xcX9 X hP 37 9 xy37 (by decide) xf_X9_32 rfl dX9_build_308 ?_
      refine lv_aload_n hx hb dX9_build_311 rfl (lv_at hl 0 rfl) ?_
      refine xget xcX9 X hP 37 8 xy37 (by decide) xf_X9_29 rfl dX9_build_312 ?_
      refine lv_iload_n hx hb dX9_build_315 rfl (lv_at hl 1 rfl) ?_
      obtain ⟨hi2, hm⟩ := xifn hm
      refine xiald X hP 44 xy44 hi2 dX9_build_316 ?_
      refine lv_iload_n hx hb dX9_build_317 rfl (lv_at hl 1 rfl) ?_
      obtain ⟨hi3, hm⟩ := xifn hm
      refine xiast X hP hS 45 xy45 hi3 dX9_build_318 (fun M4 H locs eM4 hP hS => ?_)
      have hm := xltE hm eM4
      refine lv_aload_n hx hb dX9_build_319 rfl (lv_at hl 0 rfl) ?_
      refine xget xcX9 X hP 37 10 xy37 (by decide) xf_X9_35 rfl dX9_build_320 ?_
      refine lv_iload_n hx hb dX9_build_323 rfl (lv_at hl 1 rfl) ?_
      refine lv_aload_n hx hb dX9_build_324 rfl (lv_at hl 0 rfl) ?_
      refine xget xcX9 X hP 37 8 xy37 (by decide) xf_X9_29 rfl dX9_build_325 ?_
      refine lv_iload_n hx hb dX9_build_328 rfl (lv_at hl 1 rfl) ?_
      obtain ⟨hi5, hm⟩ := xifn hm
      refine xiald X hP 44 xy44 hi5 dX9_build_329 ?_
      obtain ⟨hi6, hm⟩ := xifn hm
      refine xiast X hP hS 46 xy46 hi6 dX9_build_330 (fun M7 H locs eM7 hP hS => ?_)
      have hm := xltE hm eM7
      refine lv_iinc (v := x1 + 1) (lv' := [(1, .int (x1 + 1)), (0, .ref (xa w 37))]) hx hb dX9_build_331 hl (k := 1) rfl rfl (by decide) rfl (fun ls hl => ?_)
      refine lv_goto (tgt := 299) hx hb dX9_build_334 (by decide) ?_
      exact ih (x1 + 1) M7 _ _ _ hm hP hS (lv_sub hl [1, 0] rfl)
def fX9_build_297   (M : xM) : Option (Int32 × xM) := fX9_build_299 4096 0 M
theorem fX9_build_297_s   (M : xM) : fX9_build_297  M = (fX9_build_299 4096 0 M) := rfl
set_option maxHeartbeats 4000000 in
set_option maxRecDepth 100000 in
theorem kX9_build_297 {p : Program} {l : Launch} {e : Env} {s : State} {m : MethodId} {args : Array Value} {below : List Frame} {meth : Method} {c : Code} {w : xT} (X : xX p s m args meth c cX9_build 4 (some .int) RX9 w) (V : Int32 × xM)  : ∀  (M : xM) (H : Heap) (locs : List Loc) (ls : Array Slot), fX9_build_297  M = some V → xP w M H → xS w s H locs → lv_has ls 4 [(0, .ref (xa w 37))] → W p l e { frames := 2, cells := 0, slots := 0, locals := 47 } s m args below meth c H locs 0 0 (xQ w (some (.int V.1)) V.2 below args s) (F0 m 297 ls []) := by
  have hx := X.1
  have hb := X.2.1
  have hown := X.2.2.2.2.2.1
  have hts := X.2.2.2.2.2.2.1
  intro M H locs ls hm hP hS hl
  rw [fX9_build_297_s] at hm
  refine lv_iconst (v := 0) hx hb dX9_build_297 (by decide) ?_
  refine lv_istore_n (lv' := [(1, .int 0), (0, .ref (xa w 37))]) hx hb dX9_build_298 rfl hl (by decide) rfl (fun ls hl => ?_)
  exact kX9_build_299 X V  4096 0 M _ _ _ hm hP hS (lv_sub hl [1, 0] rfl)
def fX9_build_284 (k234 : Int32 → xM → Option (Int32 × xM)) (x1 : Int32) (x2 : Int32) (M : xM) : Option (Int32 × xM) := if xin x2 408 then xlt (xs1 M 44 x2.toNatClampNeg x1) fun M9 => k234 (x1 + 1) M9 else none
theorem fX9_build_284_s (k234 : Int32 → xM → Option (Int32 × xM)) (x1 : Int32) (x2 : Int32) (M : xM) : fX9_build_284 k234 x1 x2 M = (if xin x2 408 then xlt (xs1 M 44 x2.toNatClampNeg x1) fun M9 => k234 (x1 + 1) M9 else none) := rfl
set_option maxHeartbeats 4000000 in
set_option maxRecDepth 100000 in
theorem kX9_build_284 {p : Program} {l : Launch} {e : Env} {s : State} {m : MethodId} {args : Array Value} {below : List Frame} {meth : Method} {c : Code} {w : xT} (X : xX p s m args meth c cX9_build 4 (some .int) RX9 w) (V : Int32 × xM) (k234 : Int32 → xM → Option (Int32 × xM)) (hk234 : ∀ (x1 : Int32) (M : xM) (H : Heap) (locs : List Loc) (ls : Array Slot), k234 x1 M = some V → xP w M H → xS w s H locs → lv_has ls 4 [(0, .ref (xa w 37)), (1, .int x1)] → W p l e { frames := 2, cells := 0, slots := 0, locals := 47 } s m args below meth c H locs 0 0 (xQ w (some (.int V.1)) V.2 below args s) (F0 m 234 ls [])) : ∀ (x1 : Int32) (x2 : Int32) (M : xM) (H : Heap) (locs : List Loc) (ls : Array Slot), fX9_build_284 k234 x1 x2 M = some V → xP w M H → xS w s H locs → lv_has ls 4 [(0, .ref (xa w 37)), (1, .int x1), (2, .int x2)] → W p l e { frames := 2, cells := 0, slots := 0, locals := 47 } s m args below meth c H locs 0 0 (xQ w (some (.int V.1)) V.2 below args s) (F0 m 284 ls []) := by
  have hx := X.1
  have hb := X.2.1
  have hown := X.2.2.2.2.2.1
  have hts := X.2.2.2.2.2.2.1
  intro x1 x2 M H locs ls hm hP hS hl
  rw [fX9_build_284_s] at hm
  refine lv_aload_n hx hb dX9_build_284 rfl (lv_at hl 0 rfl) ?_
  refine xget xcX9 X hP 37 8 xy37 (by decide) xf_X9_29 rfl dX9_build_285 ?_
  refine lv_iload_n hx hb dX9_build_288 rfl (lv_at hl 2 rfl) ?_
  refine lv_iload_n hx hb dX9_build_289 rfl (lv_at hl 1 rfl) ?_
  obtain ⟨hi8, hm⟩ := xifn hm
  refine xiast X hP hS 44 xy44 hi8 dX9_build_290 (fun M9 H locs eM9 hP hS => ?_)
  have hm := xltE hm eM9
  refine lv_iinc (v := x1 + 1) (lv' := [(1, .int (x1 + 1)), (0, .ref (xa w 37)), (2, .int x2)]) hx hb dX9_build_291 hl (k := 1) rfl rfl (by decide) rfl (fun ls hl => ?_)
  refine lv_goto (tgt := 234) hx hb dX9_build_294 (by decide) ?_
  exact hk234 (x1 + 1) M9 _ _ _ hm hP hS (lv_sub hl [1, 0] rfl)
def fX9_build_244 (k234 : Int32 → xM → Option (Int32 × xM)) : Nat → Int32 → Int32 → xM → Option (Int32 × xM)
  | 0 => fun _ _ _ => none
  | n + 1 => fun x1 x2 M => if x2 ≤ 0 then (fX9_build_284 k234 x1 x2 M) else (if xin (x2 - 1) 408 then (fX9_isLess x1 (M 44 (x2 - 1).toNatClampNeg) M).bind fun v12 => if v12 = 0 then (fX9_build_284 k234 x1 x2 M) else (if xin (x2 - 1) 408 then if xin x2 408 then xlt (xs1 M 44 x2.toNatClampNeg (M 44 (x2 - 1).toNatClampNeg)) fun M16 => fX9_build_244 k234 n x1 (x2 + (-1)) M16 else none else none) else none)
theorem fX9_build_244_s (k234 : Int32 → xM → Option (Int32 × xM)) (n : Nat) (x1 : Int32) (x2 : Int32) (M : xM) : fX9_build_244 k234 (n + 1) x1 x2 M = (if x2 ≤ 0 then (fX9_build_284 k234 x1 x2 M) else (if xin (x2 - 1) 408 then (fX9_isLess x1 (M 44 (x2 - 1).toNatClampNeg) M).bind fun v12 => if v12 = 0 then (fX9_build_284 k234 x1 x2 M) else (if xin (x2 - 1) 408 then if xin x2 408 then xlt (xs1 M 44 x2.toNatClampNeg (M 44 (x2 - 1).toNatClampNeg)) fun M16 => fX9_build_244 k234 n x1 (x2 + (-1)) M16 else none else none) else none)) := rfl
set_option maxHeartbeats 4000000 in
set_option maxRecDepth 100000 in
theorem kX9_build_244 {p : Program} {l : Launch} {e : Env} {s : State} {m : MethodId} {args : Array Value} {below : List Frame} {meth : Method} {c : Code} {w : xT} (X : xX p s m args meth c cX9_build 4 (some .int) RX9 w) (V : Int32 × xM) (k234 : Int32 → xM → Option (Int32 × xM)) (hk234 : ∀ (x1 : Int32) (M : xM) (H : Heap) (locs : List Loc) (ls : Array Slot), k234 x1 M = some V → xP w M H → xS w s H locs → lv_has ls 4 [(0, .ref (xa w 37)), (1, .int x1)] → W p l e { frames := 2, cells := 0, slots := 0, locals := 47 } s m args below meth c H locs 0 0 (xQ w (some (.int V.1)) V.2 below args s) (F0 m 234 ls [])) : ∀ (n : Nat) (x1 : Int32) (x2 : Int32) (M : xM) (H : Heap) (locs : List Loc) (ls : Array Slot), fX9_build_244 k234 n x1 x2 M = some V → xP w M H → xS w s H locs → lv_has ls 4 [(0, .ref (xa w 37)), (1, .int x1), (2, .int x2)] → W p l e { frames := 2, cells := 0, slots := 0, locals := 47 } s m args below meth c H locs 0 0 (xQ w (some (.int V.1)) V.2 below args s) (F0 m 244 ls []) := by
  have hx := X.1
  have hb := X.2.1
  have hown := X.2.2.2.2.2.1
  have hts := X.2.2.2.2.2.2.1
  intro n
  induction n with
  | zero => intro x1 x2 M H locs ls hm hP hS hl; exact xnon hm
  | succ n ih =>
    intro x1 x2 M H locs ls hm hP hS hl
    rw [fX9_build_244_s] at hm
    refine lv_iload_n hx hb dX9_build_244 rfl (lv_at hl 2 rfl) ?_
    refine lv_if_le (tgt := 284) hx hb dX9_build_245 (by decide) (fun c10 => ?_) (fun c10 => ?_)
    · have hm := xift c10 hm
      exact kX9_build_284 X V k234 hk234 x1 x2 M _ _ _ hm hP hS (lv_sub hl [0, 1, 2] rfl)
    · have hm := xiff c10 hm
      refine lv_aload_n hx hb dX9_build_248 rfl (lv_at hl 0 rfl) ?_
      refine lv_iload_n hx hb dX9_build_249 rfl (lv_at hl 1 rfl) ?_
      refine lv_aload_n hx hb dX9_build_250 rfl (lv_at hl 0 rfl) ?_
      refine xget xcX9 X hP 37 8 xy37 (by decide) xf_X9_29 rfl dX9_build_251 ?_
      refine lv_iload_n hx hb dX9_build_254 rfl (lv_at hl 2 rfl) ?_
      refine lv_iconst (v := 1) hx hb dX9_build_255 (by decide) ?_
      refine lv_isub hx hb dX9_build_256 ?_
      obtain ⟨hi11, hm⟩ := xifn hm
      refine xiald X hP 44 xy44 hi11 dX9_build_257 ?_
      obtain ⟨v12, hg, hm⟩ := xbnd hm
      refine xcallV xm_X9_74 xt_X9_isLess X hP hS (qX9_isLess l w x1 (M 44 (x2 - 1).toNatClampNeg) M v12 hg) xy37 rfl ⟨Nat.le_of_ble_eq_true rfl, Nat.le_of_ble_eq_true rfl⟩ ⟨rfl, rfl⟩ hl.1 rfl (rest := []) rfl (Nat.le_of_ble_eq_true rfl) dX9_build_258 ⟨Nat.zero_le _, Nat.zero_le _⟩ (fun H locs hP hS => ?_)
      refine W.eq (g2 := F0 m 261 ls [.int v12]) rfl ?_
      refine lv_if_eq (tgt := 284) hx hb dX9_build_261 (by decide) (fun c13 => ?_) (fun c13 => ?_)
      · have hm := xift c13 hm
        exact kX9_build_284 X V k234 hk234 x1 x2 M _ _ _ hm hP hS (lv_sub hl [0, 1, 2] rfl)
      · have hm := xiff c13 hm
        refine lv_aload_n hx hb dX9_build_264 rfl (lv_at hl 0 rfl) ?_
        refine xget xcX9 X hP 37 8 xy37 (by decide) xf_X9_29 rfl dX9_build_265 ?_
        refine lv_iload_n hx hb dX9_build_268 rfl (lv_at hl 2 rfl) ?_
        refine lv_aload_n hx hb dX9_build_269 rfl (lv_at hl 0 rfl) ?_
        refine xget xcX9 X hP 37 8 xy37 (by decide) xf_X9_29 rfl dX9_build_270 ?_
        refine lv_iload_n hx hb dX9_build_273 rfl (lv_at hl 2 rfl) ?_
        refine lv_iconst (v := 1) hx hb dX9_build_274 (by decide) ?_
        refine lv_isub hx hb dX9_build_275 ?_
        obtain ⟨hi14, hm⟩ := xifn hm
        refine xiald X hP 44 xy44 hi14 dX9_build_276 ?_
        obtain ⟨hi15, hm⟩ := xifn hm
        refine xiast X hP hS 44 xy44 hi15 dX9_build_277 (fun M16 H locs eM16 hP hS => ?_)
        have hm := xltE hm eM16
        refine lv_iinc (v := x2 + (-1)) (lv' := [(2, .int (x2 + (-1))), (0, .ref (xa w 37)), (1, .int x1)]) hx hb dX9_build_278 hl (k := 2) rfl rfl (by decide) rfl (fun ls hl => ?_)
        refine lv_goto (tgt := 244) hx hb dX9_build_281 (by decide) ?_
        exact ih x1 (x2 + (-1)) M16 _ _ _ hm hP hS (lv_sub hl [1, 2, 0] rfl)
def fX9_build_234  : Nat → Int32 → xM → Option (Int32 × xM)
  | 0 => fun _ _ => none
  | n + 1 => fun x1 M => if (M 37 6) ≤ x1 then (fX9_build_297  M) else (fX9_build_244 (fX9_build_234 n) 4096 x1 x1 M)
theorem fX9_build_234_s  (n : Nat) (x1 : Int32) (M : xM) : fX9_build_234  (n + 1) x1 M = (if (M 37 6) ≤ x1 then (fX9_build_297  M) else (fX9_build_244 (fX9_build_234 n) 4096 x1 x1 M)) := rfl
set_option maxHeartbeats 4000000 in
set_option maxRecDepth 100000 in
theorem kX9_build_234 {p : Program} {l : Launch} {e : Env} {s : State} {m : MethodId} {args : Array Value} {below : List Frame} {meth : Method} {c : Code} {w : xT} (X : xX p s m args meth c cX9_build 4 (some .int) RX9 w) (V : Int32 × xM)  : ∀ (n : Nat) (x1 : Int32) (M : xM) (H : Heap) (locs : List Loc) (ls : Array Slot), fX9_build_234  n x1 M = some V → xP w M H → xS w s H locs → lv_has ls 4 [(0, .ref (xa w 37)), (1, .int x1)] → W p l e { frames := 2, cells := 0, slots := 0, locals := 47 } s m args below meth c H locs 0 0 (xQ w (some (.int V.1)) V.2 below args s) (F0 m 234 ls []) := by
  have hx := X.1
  have hb := X.2.1
  have hown := X.2.2.2.2.2.1
  have hts := X.2.2.2.2.2.2.1
  intro n
  induction n with
  | zero => intro x1 M H locs ls hm hP hS hl; exact xnon hm
  | succ n ih =>
    intro x1 M H locs ls hm hP hS hl
    rw [fX9_build_234_s] at hm
    refine lv_iload_n hx hb dX9_build_234 rfl (lv_at hl 1 rfl) ?_
    refine lv_aload_n hx hb dX9_build_235 rfl (lv_at hl 0 rfl) ?_
    refine xgeti xcX9 X hP 37 6 xy37 (by decide) xf_X9_48 rfl dX9_build_236 ?_
    refine lv_icmp_ge (tgt := 297) hx hb dX9_build_239 (by decide) (fun c17 => ?_) (fun c17 => ?_)
    · have hm := xift c17 hm
      exact kX9_build_297 X V  M _ _ _ hm hP hS (lv_sub hl [0] rfl)
    · have hm := xiff c17 hm
      refine lv_iload_n hx hb dX9_build_242 rfl (lv_at hl 1 rfl) ?_
      refine lv_istore_n (lv' := [(2, .int x1), (0, .ref (xa w 37)), (1, .int x1)]) hx hb dX9_build_243 rfl hl (by decide) rfl (fun ls hl => ?_)
      exact kX9_build_244 X V (fX9_build_234 n) ih 4096 x1 x1 M _ _ _ hm hP hS (lv_sub hl [1, 2, 0] rfl)
def fX9_build_232   (M : xM) : Option (Int32 × xM) := fX9_build_234 4096 0 M
theorem fX9_build_232_s   (M : xM) : fX9_build_232  M = (fX9_build_234 4096 0 M) := rfl
set_option maxHeartbeats 4000000 in
set_option maxRecDepth 100000 in
theorem kX9_build_232 {p : Program} {l : Launch} {e : Env} {s : State} {m : MethodId} {args : Array Value} {below : List Frame} {meth : Method} {c : Code} {w : xT} (X : xX p s m args meth c cX9_build 4 (some .int) RX9 w) (V : Int32 × xM)  : ∀  (M : xM) (H : Heap) (locs : List Loc) (ls : Array Slot), fX9_build_232  M = some V → xP w M H → xS w s H locs → lv_has ls 4 [(0, .ref (xa w 37))] → W p l e { frames := 2, cells := 0, slots := 0, locals := 47 } s m args below meth c H locs 0 0 (xQ w (some (.int V.1)) V.2 below args s) (F0 m 232 ls []) := by
  have hx := X.1
  have hb := X.2.1
  have hown := X.2.2.2.2.2.1
  have hts := X.2.2.2.2.2.2.1
  intro M H locs ls hm hP hS hl
  rw [fX9_build_232_s] at hm
  refine lv_iconst (v := 0) hx hb dX9_build_232 (by decide) ?_
  refine lv_istore_n (lv' := [(1, .int 0), (0, .ref (xa w 37))]) hx hb dX9_build_233 rfl hl (by decide) rfl (fun ls hl => ?_)
  exact kX9_build_234 X V  4096 0 M _ _ _ hm hP hS (lv_sub hl [1, 0] rfl)
def fX9_build_226 (k137 : Int32 → xM → Option (Int32 × xM)) (x1 : Int32) (M : xM) : Option (Int32 × xM) := k137 (x1 + (-1)) M
theorem fX9_build_226_s (k137 : Int32 → xM → Option (Int32 × xM)) (x1 : Int32) (M : xM) : fX9_build_226 k137 x1 M = (k137 (x1 + (-1)) M) := rfl
set_option maxHeartbeats 4000000 in
set_option maxRecDepth 100000 in
theorem kX9_build_226 {p : Program} {l : Launch} {e : Env} {s : State} {m : MethodId} {args : Array Value} {below : List Frame} {meth : Method} {c : Code} {w : xT} (X : xX p s m args meth c cX9_build 4 (some .int) RX9 w) (V : Int32 × xM) (k137 : Int32 → xM → Option (Int32 × xM)) (hk137 : ∀ (x1 : Int32) (M : xM) (H : Heap) (locs : List Loc) (ls : Array Slot), k137 x1 M = some V → xP w M H → xS w s H locs → lv_has ls 4 [(0, .ref (xa w 37)), (1, .int x1)] → W p l e { frames := 2, cells := 0, slots := 0, locals := 47 } s m args below meth c H locs 0 0 (xQ w (some (.int V.1)) V.2 below args s) (F0 m 137 ls [])) : ∀ (x1 : Int32) (M : xM) (H : Heap) (locs : List Loc) (ls : Array Slot), fX9_build_226 k137 x1 M = some V → xP w M H → xS w s H locs → lv_has ls 4 [(0, .ref (xa w 37)), (1, .int x1)] → W p l e { frames := 2, cells := 0, slots := 0, locals := 47 } s m args below meth c H locs 0 0 (xQ w (some (.int V.1)) V.2 below args s) (F0 m 226 ls []) := by
  have hx := X.1
  have hb := X.2.1
  have hown := X.2.2.2.2.2.1
  have hts := X.2.2.2.2.2.2.1
  intro x1 M H locs ls hm hP hS hl
  rw [fX9_build_226_s] at hm
  refine lv_iinc (v := x1 + (-1)) (lv' := [(1, .int (x1 + (-1))), (0, .ref (xa w 37))]) hx hb dX9_build_226 hl (k := 1) rfl rfl (by decide) rfl (fun ls hl => ?_)
  refine lv_goto (tgt := 137) hx hb dX9_build_229 (by decide) ?_
  exact hk137 (x1 + (-1)) M _ _ _ hm hP hS (lv_sub hl [1, 0] rfl)
def fX9_build_219 (k137 : Int32 → xM → Option (Int32 × xM)) (k148 : Int32 → Int32 → xM → Option (Int32 × xM)) (x1 : Int32) (x2 : Int32) (s1 : Int32) (s2 : Int32) (M : xM) : Option (Int32 × xM) := if xin s1 166464 then xlt (xs1 M 43 s1.toNatClampNeg s2) fun M19 => k148 x1 (x2 + (-1)) M19 else none
theorem fX9_build_219_s (k137 : Int32 → xM → Option (Int32 × xM)) (k148 : Int32 → Int32 → xM → Option (Int32 × xM)) (x1 : Int32) (x2 : Int32) (s1 : Int32) (s2 : Int32) (M : xM) : fX9_build_219 k137 k148 x1 x2 s1 s2 M = (if xin s1 166464 then xlt (xs1 M 43 s1.toNatClampNeg s2) fun M19 => k148 x1 (x2 + (-1)) M19 else none) := rfl
set_option maxHeartbeats 4000000 in
set_option maxRecDepth 100000 in
theorem kX9_build_219 {p : Program} {l : Launch} {e : Env} {s : State} {m : MethodId} {args : Array Value} {below : List Frame} {meth : Method} {c : Code} {w : xT} (X : xX p s m args meth c cX9_build 4 (some .int) RX9 w) (V : Int32 × xM) (k137 : Int32 → xM → Option (Int32 × xM)) (hk137 : ∀ (x1 : Int32) (M : xM) (H : Heap) (locs : List Loc) (ls : Array Slot), k137 x1 M = some V → xP w M H → xS w s H locs → lv_has ls 4 [(0, .ref (xa w 37)), (1, .int x1)] → W p l e { frames := 2, cells := 0, slots := 0, locals := 47 } s m args below meth c H locs 0 0 (xQ w (some (.int V.1)) V.2 below args s) (F0 m 137 ls [])) (k148 : Int32 → Int32 → xM → Option (Int32 × xM)) (hk148 : ∀ (x1 : Int32) (x2 : Int32) (M : xM) (H : Heap) (locs : List Loc) (ls : Array Slot), k148 x1 x2 M = some V → xP w M H → xS w s H locs → lv_has ls 4 [(0, .ref (xa w 37)), (1, .int x1), (2, .int x2)] → W p l e { frames := 2, cells := 0, slots := 0, locals := 47 } s m args below meth c H locs 0 0 (xQ w (some (.int V.1)) V.2 below args s) (F0 m 148 ls [])) : ∀ (x1 : Int32) (x2 : Int32) (s1 : Int32) (s2 : Int32) (M : xM) (H : Heap) (locs : List Loc) (ls : Array Slot), fX9_build_219 k137 k148 x1 x2 s1 s2 M = some V → xP w M H → xS w s H locs → lv_has ls 4 [(0, .ref (xa w 37)), (1, .int x1), (2, .int x2)] → W p l e { frames := 2, cells := 0, slots := 0, locals := 47 } s m args below meth c H locs 0 0 (xQ w (some (.int V.1)) V.2 below args s) (F0 m 219 ls [.int s2, .int s1, .ref (xa w 43)]) := by
  have hx := X.1
  have hb := X.2.1
  have hown := X.2.2.2.2.2.1
  have hts := X.2.2.2.2.2.2.1
  intro x1 x2 s1 s2 M H locs ls hm hP hS hl
  rw [fX9_build_219_s] at hm
  obtain ⟨hi18, hm⟩ := xifn hm
  refine xiast X hP hS 43 xy43 hi18 dX9_build_219 (fun M19 H locs eM19 hP hS => ?_)
  have hm := xltE hm eM19
  refine lv_iinc (v := x2 + (-1)) (lv' := [(2, .int (x2 + (-1))), (0, .ref (xa w 37)), (1, .int x1)]) hx hb dX9_build_220 hl (k := 2) rfl rfl (by decide) rfl (fun ls hl => ?_)
  refine lv_goto (tgt := 148) hx hb dX9_build_223 (by decide) ?_
  exact hk148 x1 (x2 + (-1)) M19 _ _ _ hm hP hS (lv_sub hl [1, 2, 0] rfl)
def fX9_build_181 (k137 : Int32 → xM → Option (Int32 × xM)) (k148 : Int32 → Int32 → xM → Option (Int32 × xM)) (x1 : Int32) (x2 : Int32) (s0 : Int32) (M : xM) : Option (Int32 × xM) := if s0 = 0 then (fX9_build_219 k137 k148 x1 x2 ((408 * x1) + x2) 0 M) else (if xin (((408 * (x1 + 1)) + x2) + 1) 166464 then fX9_build_219 k137 k148 x1 x2 ((408 * x1) + x2) (1 + (M 43 (((408 * (x1 + 1)) + x2) + 1).toNatClampNeg)) M else none)
theorem fX9_build_181_s (k137 : Int32 → xM → Option (Int32 × xM)) (k148 : Int32 → Int32 → xM → Option (Int32 × xM)) (x1 : Int32) (x2 : Int32) (s0 : Int32) (M : xM) : fX9_build_181 k137 k148 x1 x2 s0 M = (if s0 = 0 then (fX9_build_219 k137 k148 x1 x2 ((408 * x1) + x2) 0 M) else (if xin (((408 * (x1 + 1)) + x2) + 1) 166464 then fX9_build_219 k137 k148 x1 x2 ((408 * x1) + x2) (1 + (M 43 (((408 * (x1 + 1)) + x2) + 1).toNatClampNeg)) M else none)) := rfl
set_option maxHeartbeats 4000000 in
set_option maxRecDepth 100000 in
theorem kX9_build_181 {p : Program} {l : Launch} {e : Env} {s : State} {m : MethodId} {args : Array Value} {below : List Frame} {meth : Method} {c : Code} {w : xT} (X : xX p s m args meth c cX9_build 4 (some .int) RX9 w) (V : Int32 × xM) (k137 : Int32 → xM → Option (Int32 × xM)) (hk137 : ∀ (x1 : Int32) (M : xM) (H : Heap) (locs : List Loc) (ls : Array Slot), k137 x1 M = some V → xP w M H → xS w s H locs → lv_has ls 4 [(0, .ref (xa w 37)), (1, .int x1)] → W p l e { frames := 2, cells := 0, slots := 0, locals := 47 } s m args below meth c H locs 0 0 (xQ w (some (.int V.1)) V.2 below args s) (F0 m 137 ls [])) (k148 : Int32 → Int32 → xM → Option (Int32 × xM)) (hk148 : ∀ (x1 : Int32) (x2 : Int32) (M : xM) (H : Heap) (locs : List Loc) (ls : Array Slot), k148 x1 x2 M = some V → xP w M H → xS w s H locs → lv_has ls 4 [(0, .ref (xa w 37)), (1, .int x1), (2, .int x2)] → W p l e { frames := 2, cells := 0, slots := 0, locals := 47 } s m args below meth c H locs 0 0 (xQ w (some (.int V.1)) V.2 below args s) (F0 m 148 ls [])) : ∀ (x1 : Int32) (x2 : Int32) (s0 : Int32) (M : xM) (H : Heap) (locs : List Loc) (ls : Array Slot), fX9_build_181 k137 k148 x1 x2 s0 M = some V → xP w M H → xS w s H locs → lv_has ls 4 [(0, .ref (xa w 37)), (1, .int x1), (2, .int x2)] → W p l e { frames := 2, cells := 0, slots := 0, locals := 47 } s m args below meth c H locs 0 0 (xQ w (some (.int V.1)) V.2 below args s) (F0 m 181 ls [.int s0]) := by
  have hx := X.1
  have hb := X.2.1
  have hown := X.2.2.2.2.2.1
  have hts := X.2.2.2.2.2.2.1
  intro x1 x2 s0 M H locs ls hm hP hS hl
  rw [fX9_build_181_s] at hm
  refine lv_istore_n (lv' := [(3, .int s0), (0, .ref (xa w 37)), (1, .int x1), (2, .int x2)]) hx hb dX9_build_181 rfl hl (by decide) rfl (fun ls hl => ?_)
  refine lv_aload_n hx hb dX9_build_182 rfl (lv_at hl 1 rfl) ?_
  refine xget xcX9 X hP 37 7 xy37 (by decide) xf_X9_26 rfl dX9_build_183 ?_
  refine lv_sipush (v := 408) hx hb dX9_build_186 (by decide) ?_
  refine lv_iload_n hx hb dX9_build_189 rfl (lv_at hl 2 rfl) ?_
  refine lv_imul hx hb dX9_build_190 ?_
  refine lv_iload_n hx hb dX9_build_191 rfl (lv_at hl 3 rfl) ?_
  refine lv_iadd hx hb dX9_build_192 ?_
  refine lv_iload_n hx hb dX9_build_193 rfl (lv_at hl 0 rfl) ?_
  refine lv_if_eq (tgt := 218) hx hb dX9_build_194 (by decide) (fun c20 => ?_) (fun c20 => ?_)
  · have hm := xift c20 hm
    refine lv_iconst (v := 0) hx hb dX9_build_218 (by decide) ?_
    exact kX9_build_219 X V k137 hk137 k148 hk148 x1 x2 ((408 * x1) + x2) 0 M _ _ _ hm hP hS (lv_sub hl [1, 2, 3] rfl)
  · have hm := xiff c20 hm
    refine lv_iconst (v := 1) hx hb dX9_build_197 (by decide) ?_
    refine lv_aload_n hx hb dX9_build_198 rfl (lv_at hl 1 rfl) ?_
    refine xget xcX9 X hP 37 7 xy37 (by decide) xf_X9_26 rfl dX9_build_199 ?_
    refine lv_sipush (v := 408) hx hb dX9_build_202 (by decide) ?_
    refine lv_iload_n hx hb dX9_build_205 rfl (lv_at hl 2 rfl) ?_
    refine lv_iconst (v := 1) hx hb dX9_build_206 (by decide) ?_
    refine lv_iadd hx hb dX9_build_207 ?_
    refine lv_imul hx hb dX9_build_208 ?_
    refine lv_iload_n hx hb dX9_build_209 rfl (lv_at hl 3 rfl) ?_
    refine lv_iadd hx hb dX9_build_210 ?_
    refine lv_iconst (v := 1) hx hb dX9_build_211 (by decide) ?_
    refine lv_iadd hx hb dX9_build_212 ?_
    obtain ⟨hi21, hm⟩ := xifn hm
    refine xiald X hP 43 xy43 hi21 dX9_build_213 ?_
    refine lv_iadd hx hb dX9_build_214 ?_
    refine lv_goto (tgt := 219) hx hb dX9_build_215 (by decide) ?_
    exact kX9_build_219 X V k137 hk137 k148 hk148 x1 x2 ((408 * x1) + x2) (1 + (M 43 (((408 * (x1 + 1)) + x2) + 1).toNatClampNeg)) M _ _ _ hm hP hS (lv_sub hl [1, 2, 3] rfl)
def fX9_build_180 (k137 : Int32 → xM → Option (Int32 × xM)) (k148 : Int32 → Int32 → xM → Option (Int32 × xM)) (x1 : Int32) (x2 : Int32) (M : xM) : Option (Int32 × xM) := fX9_build_181 k137 k148 x1 x2 0 M
theorem fX9_build_180_s (k137 : Int32 → xM → Option (Int32 × xM)) (k148 : Int32 → Int32 → xM → Option (Int32 × xM)) (x1 : Int32) (x2 : Int32) (M : xM) : fX9_build_180 k137 k148 x1 x2 M = (fX9_build_181 k137 k148 x1 x2 0 M) := rfl
set_option maxHeartbeats 4000000 in
set_option maxRecDepth 100000 in
theorem kX9_build_180 {p : Program} {l : Launch} {e : Env} {s : State} {m : MethodId} {args : Array Value} {below : List Frame} {meth : Method} {c : Code} {w : xT} (X : xX p s m args meth c cX9_build 4 (some .int) RX9 w) (V : Int32 × xM) (k137 : Int32 → xM → Option (Int32 × xM)) (hk137 : ∀ (x1 : Int32) (M : xM) (H : Heap) (locs : List Loc) (ls : Array Slot), k137 x1 M = some V → xP w M H → xS w s H locs → lv_has ls 4 [(0, .ref (xa w 37)), (1, .int x1)] → W p l e { frames := 2, cells := 0, slots := 0, locals := 47 } s m args below meth c H locs 0 0 (xQ w (some (.int V.1)) V.2 below args s) (F0 m 137 ls [])) (k148 : Int32 → Int32 → xM → Option (Int32 × xM)) (hk148 : ∀ (x1 : Int32) (x2 : Int32) (M : xM) (H : Heap) (locs : List Loc) (ls : Array Slot), k148 x1 x2 M = some V → xP w M H → xS w s H locs → lv_has ls 4 [(0, .ref (xa w 37)), (1, .int x1), (2, .int x2)] → W p l e { frames := 2, cells := 0, slots := 0, locals := 47 } s m args below meth c H locs 0 0 (xQ w (some (.int V.1)) V.2 below args s) (F0 m 148 ls [])) : ∀ (x1 : Int32) (x2 : Int32) (M : xM) (H : Heap) (locs : List Loc) (ls : Array Slot), fX9_build_180 k137 k148 x1 x2 M = some V → xP w M H → xS w s H locs → lv_has ls 4 [(0, .ref (xa w 37)), (1, .int x1), (2, .int x2)] → W p l e { frames := 2, cells := 0, slots := 0, locals := 47 } s m args below meth c H locs 0 0 (xQ w (some (.int V.1)) V.2 below args s) (F0 m 180 ls []) := by
  have hx := X.1
  have hb := X.2.1
  have hown := X.2.2.2.2.2.1
  have hts := X.2.2.2.2.2.2.1
  intro x1 x2 M H locs ls hm hP hS hl
  rw [fX9_build_180_s] at hm
  refine lv_iconst (v := 0) hx hb dX9_build_180 (by decide) ?_
  exact kX9_build_181 X V k137 hk137 k148 hk148 x1 x2 0 M _ _ _ hm hP hS (lv_sub hl [0, 1, 2] rfl)
def fX9_build_148 (k137 : Int32 → xM → Option (Int32 × xM)) : Nat → Int32 → Int32 → xM → Option (Int32 × xM)
  | 0 => fun _ _ _ => none
  | n + 1 => fun x1 x2 M => if x2 < 0 then (fX9_build_226 k137 x1 M) else (if xin x1 408 then if (M 40 x1.toNatClampNeg) < 0 then (fX9_build_180 k137 (fX9_build_148 k137 n) x1 x2 M) else (if xin x1 408 then if xin x2 408 then if (M 40 x1.toNatClampNeg) = (M 40 x2.toNatClampNeg) then (fX9_build_181 k137 (fX9_build_148 k137 n) x1 x2 1 M) else (fX9_build_180 k137 (fX9_build_148 k137 n) x1 x2 M) else none else none) else none)
theorem fX9_build_148_s (k137 : Int32 → xM → Option (Int32 × xM)) (n : Nat) (x1 : Int32) (x2 : Int32) (M : xM) : fX9_build_148 k137 (n + 1) x1 x2 M = (if x2 < 0 then (fX9_build_226 k137 x1 M) else (if xin x1 408 then if (M 40 x1.toNatClampNeg) < 0 then (fX9_build_180 k137 (fX9_build_148 k137 n) x1 x2 M) else (if xin x1 408 then if xin x2 408 then if (M 40 x1.toNatClampNeg) = (M 40 x2.toNatClampNeg) then (fX9_build_181 k137 (fX9_build_148 k137 n) x1 x2 1 M) else (fX9_build_180 k137 (fX9_build_148 k137 n) x1 x2 M) else none else none) else none)) := rfl
set_option maxHeartbeats 4000000 in
set_option maxRecDepth 100000 in
theorem kX9_build_148 {p : Program} {l : Launch} {e : Env} {s : State} {m : MethodId} {args : Array Value} {below : List Frame} {meth : Method} {c : Code} {w : xT} (X : xX p s m args meth c cX9_build 4 (some .int) RX9 w) (V : Int32 × xM) (k137 : Int32 → xM → Option (Int32 × xM)) (hk137 : ∀ (x1 : Int32) (M : xM) (H : Heap) (locs : List Loc) (ls : Array Slot), k137 x1 M = some V → xP w M H → xS w s H locs → lv_has ls 4 [(0, .ref (xa w 37)), (1, .int x1)] → W p l e { frames := 2, cells := 0, slots := 0, locals := 47 } s m args below meth c H locs 0 0 (xQ w (some (.int V.1)) V.2 below args s) (F0 m 137 ls [])) : ∀ (n : Nat) (x1 : Int32) (x2 : Int32) (M : xM) (H : Heap) (locs : List Loc) (ls : Array Slot), fX9_build_148 k137 n x1 x2 M = some V → xP w M H → xS w s H locs → lv_has ls 4 [(0, .ref (xa w 37)), (1, .int x1), (2, .int x2)] → W p l e { frames := 2, cells := 0, slots := 0, locals := 47 } s m args below meth c H locs 0 0 (xQ w (some (.int V.1)) V.2 below args s) (F0 m 148 ls []) := by
  have hx := X.1
  have hb := X.2.1
  have hown := X.2.2.2.2.2.1
  have hts := X.2.2.2.2.2.2.1
  intro n
  induction n with
  | zero => intro x1 x2 M H locs ls hm hP hS hl; exact xnon hm
  | succ n ih =>
    intro x1 x2 M H locs ls hm hP hS hl
    rw [fX9_build_148_s] at hm
    refine lv_iload_n hx hb dX9_build_148 rfl (lv_at hl 2 rfl) ?_
    refine lv_if_lt (tgt := 226) hx hb dX9_build_149 (by decide) (fun c22 => ?_) (fun c22 => ?_)
    · have hm := xift c22 hm
      exact kX9_build_226 X V k137 hk137 x1 M _ _ _ hm hP hS (lv_sub hl [0, 1] rfl)
    · have hm := xiff c22 hm
      refine lv_aload_n hx hb dX9_build_152 rfl (lv_at hl 0 rfl) ?_
      refine xget xcX9 X hP 37 3 xy37 (by decide) xf_X9_16 rfl dX9_build_153 ?_
      refine lv_iload_n hx hb dX9_build_156 rfl (lv_at hl 1 rfl) ?_
      obtain ⟨hi23, hm⟩ := xifn hm
      refine xiald X hP 40 xy40 hi23 dX9_build_157 ?_
      refine lv_if_lt (tgt := 180) hx hb dX9_build_158 (by decide) (fun c24 => ?_) (fun c24 => ?_)
      · have hm := xift c24 hm
        exact kX9_build_180 X V k137 hk137 (fX9_build_148 k137 n) ih x1 x2 M _ _ _ hm hP hS (lv_sub hl [0, 1, 2] rfl)
      · have hm := xiff c24 hm
        refine lv_aload_n hx hb dX9_build_161 rfl (lv_at hl 0 rfl) ?_
        refine xget xcX9 X hP 37 3 xy37 (by decide) xf_X9_16 rfl dX9_build_162 ?_
        refine lv_iload_n hx hb dX9_build_165 rfl (lv_at hl 1 rfl) ?_
        obtain ⟨hi25, hm⟩ := xifn hm
        refine xiald X hP 40 xy40 hi25 dX9_build_166 ?_
        refine lv_aload_n hx hb dX9_build_167 rfl (lv_at hl 0 rfl) ?_
        refine xget xcX9 X hP 37 3 xy37 (by decide) xf_X9_16 rfl dX9_build_168 ?_
        refine lv_iload_n hx hb dX9_build_171 rfl (lv_at hl 2 rfl) ?_
        obtain ⟨hi26, hm⟩ := xifn hm
        refine xiald X hP 40 xy40 hi26 dX9_build_172 ?_
        refine lv_icmp_ne (tgt := 180) hx hb dX9_build_173 (by decide) (fun c27 => ?_) (fun c27 => ?_)
        · have hm := xiff c27 hm
          exact kX9_build_180 X V k137 hk137 (fX9_build_148 k137 n) ih x1 x2 M _ _ _ hm hP hS (lv_sub hl [0, 1, 2] rfl)
        · have hm := xift c27 hm
          refine lv_iconst (v := 1) hx hb dX9_build_176 (by decide) ?_
          refine lv_goto (tgt := 181) hx hb dX9_build_177 (by decide) ?_
          exact kX9_build_181 X V k137 hk137 (fX9_build_148 k137 n) ih x1 x2 1 M _ _ _ hm hP hS (lv_sub hl [0, 1, 2] rfl)
def fX9_build_137  : Nat → Int32 → xM → Option (Int32 × xM)
  | 0 => fun _ _ => none
  | n + 1 => fun x1 M => if x1 < 0 then (fX9_build_232  M) else (fX9_build_148 (fX9_build_137 n) 4096 x1 ((M 37 6) - 1) M)
theorem fX9_build_137_s  (n : Nat) (x1 : Int32) (M : xM) : fX9_build_137  (n + 1) x1 M = (if x1 < 0 then (fX9_build_232  M) else (fX9_build_148 (fX9_build_137 n) 4096 x1 ((M 37 6) - 1) M)) := rfl
set_option maxHeartbeats 4000000 in
set_option maxRecDepth 100000 in
theorem kX9_build_137 {p : Program} {l : Launch} {e : Env} {s : State} {m : MethodId} {args : Array Value} {below : List Frame} {meth : Method} {c : Code} {w : xT} (X : xX p s m args meth c cX9_build 4 (some .int) RX9 w) (V : Int32 × xM)  : ∀ (n : Nat) (x1 : Int32) (M : xM) (H : Heap) (locs : List Loc) (ls : Array Slot), fX9_build_137  n x1 M = some V → xP w M H → xS w s H locs → lv_has ls 4 [(0, .ref (xa w 37)), (1, .int x1)] → W p l e { frames := 2, cells := 0, slots := 0, locals := 47 } s m args below meth c H locs 0 0 (xQ w (some (.int V.1)) V.2 below args s) (F0 m 137 ls []) := by
  have hx := X.1
  have hb := X.2.1
  have hown := X.2.2.2.2.2.1
  have hts := X.2.2.2.2.2.2.1
  intro n
  induction n with
  | zero => intro x1 M H locs ls hm hP hS hl; exact xnon hm
  | succ n ih =>
    intro x1 M H locs ls hm hP hS hl
    rw [fX9_build_137_s] at hm
    refine lv_iload_n hx hb dX9_build_137 rfl (lv_at hl 1 rfl) ?_
    refine lv_if_lt (tgt := 232) hx hb dX9_build_138 (by decide) (fun c28 => ?_) (fun c28 => ?_)
    · have hm := xift c28 hm
      exact kX9_build_232 X V  M _ _ _ hm hP hS (lv_sub hl [0] rfl)
    · have hm := xiff c28 hm
      refine lv_aload_n hx hb dX9_build_141 rfl (lv_at hl 0 rfl) ?_
      refine xgeti xcX9 X hP 37 6 xy37 (by decide) xf_X9_48 rfl dX9_build_142 ?_
      refine lv_iconst (v := 1) hx hb dX9_build_145 (by decide) ?_
      refine lv_isub hx hb dX9_build_146 ?_
      refine lv_istore_n (lv' := [(2, .int ((M 37 6) - 1)), (0, .ref (xa w 37)), (1, .int x1)]) hx hb dX9_build_147 rfl hl (by decide) rfl (fun ls hl => ?_)
      exact kX9_build_148 X V (fX9_build_137 n) ih 4096 x1 ((M 37 6) - 1) M _ _ _ hm hP hS (lv_sub hl [1, 2, 0] rfl)
def fX9_build_130   (M : xM) : Option (Int32 × xM) := fX9_build_137 4096 ((M 37 6) - 1) M
theorem fX9_build_130_s   (M : xM) : fX9_build_130  M = (fX9_build_137 4096 ((M 37 6) - 1) M) := rfl
set_option maxHeartbeats 4000000 in
set_option maxRecDepth 100000 in
theorem kX9_build_130 {p : Program} {l : Launch} {e : Env} {s : State} {m : MethodId} {args : Array Value} {below : List Frame} {meth : Method} {c : Code} {w : xT} (X : xX p s m args meth c cX9_build 4 (some .int) RX9 w) (V : Int32 × xM)  : ∀  (M : xM) (H : Heap) (locs : List Loc) (ls : Array Slot), fX9_build_130  M = some V → xP w M H → xS w s H locs → lv_has ls 4 [(0, .ref (xa w 37))] → W p l e { frames := 2, cells := 0, slots := 0, locals := 47 } s m args below meth c H locs 0 0 (xQ w (some (.int V.1)) V.2 below args s) (F0 m 130 ls []) := by
  have hx := X.1
  have hb := X.2.1
  have hown := X.2.2.2.2.2.1
  have hts := X.2.2.2.2.2.2.1
  intro M H locs ls hm hP hS hl
  rw [fX9_build_130_s] at hm
  refine lv_aload_n hx hb dX9_build_130 rfl (lv_at hl 0 rfl) ?_
  refine xgeti xcX9 X hP 37 6 xy37 (by decide) xf_X9_48 rfl dX9_build_131 ?_
  refine lv_iconst (v := 1) hx hb dX9_build_134 (by decide) ?_
  refine lv_isub hx hb dX9_build_135 ?_
  refine lv_istore_n (lv' := [(1, .int ((M 37 6) - 1)), (0, .ref (xa w 37))]) hx hb dX9_build_136 rfl hl (by decide) rfl (fun ls hl => ?_)
  exact kX9_build_137 X V  4096 ((M 37 6) - 1) M _ _ _ hm hP hS (lv_sub hl [1, 0] rfl)
def fX9_build_124 (k7 : Int32 → xM → Option (Int32 × xM)) (x1 : Int32) (M : xM) : Option (Int32 × xM) := k7 (x1 + 1) M
theorem fX9_build_124_s (k7 : Int32 → xM → Option (Int32 × xM)) (x1 : Int32) (M : xM) : fX9_build_124 k7 x1 M = (k7 (x1 + 1) M) := rfl
set_option maxHeartbeats 4000000 in
set_option maxRecDepth 100000 in
theorem kX9_build_124 {p : Program} {l : Launch} {e : Env} {s : State} {m : MethodId} {args : Array Value} {below : List Frame} {meth : Method} {c : Code} {w : xT} (X : xX p s m args meth c cX9_build 4 (some .int) RX9 w) (V : Int32 × xM) (k7 : Int32 → xM → Option (Int32 × xM)) (hk7 : ∀ (x1 : Int32) (M : xM) (H : Heap) (locs : List Loc) (ls : Array Slot), k7 x1 M = some V → xP w M H → xS w s H locs → lv_has ls 4 [(0, .ref (xa w 37)), (1, .int x1)] → W p l e { frames := 2, cells := 0, slots := 0, locals := 47 } s m args below meth c H locs 0 0 (xQ w (some (.int V.1)) V.2 below args s) (F0 m 7 ls [])) : ∀ (x1 : Int32) (M : xM) (H : Heap) (locs : List Loc) (ls : Array Slot), fX9_build_124 k7 x1 M = some V → xP w M H → xS w s H locs → lv_has ls 4 [(0, .ref (xa w 37)), (1, .int x1)] → W p l e { frames := 2, cells := 0, slots := 0, locals := 47 } s m args below meth c H locs 0 0 (xQ w (some (.int V.1)) V.2 below args s) (F0 m 124 ls []) := by
  have hx := X.1
  have hb := X.2.1
  have hown := X.2.2.2.2.2.1
  have hts := X.2.2.2.2.2.2.1
  intro x1 M H locs ls hm hP hS hl
  rw [fX9_build_124_s] at hm
  refine lv_iinc (v := x1 + 1) (lv' := [(1, .int (x1 + 1)), (0, .ref (xa w 37))]) hx hb dX9_build_124 hl (k := 1) rfl rfl (by decide) rfl (fun ls hl => ?_)
  refine lv_goto (tgt := 7) hx hb dX9_build_127 (by decide) ?_
  exact hk7 (x1 + 1) M _ _ _ hm hP hS (lv_sub hl [1, 0] rfl)
def fX9_build_82 (k7 : Int32 → xM → Option (Int32 × xM)) (x1 : Int32) (M : xM) : Option (Int32 × xM) := if xin x1 8 then if (M 39 x1.toNatClampNeg) ≤ 0 then (fX9_build_124 k7 x1 M) else (if xin (M 37 6) 408 then xlt (xs1 M 40 (M 37 6).toNatClampNeg ((-2) - x1)) fun M32 => if xin (M32 37 6) 408 then xlt (xs1 M32 41 (M32 37 6).toNatClampNeg x1) fun M34 => xlt (xs1 M34 37 6 ((M34 37 6) + 1)) fun M35 => fX9_build_124 k7 x1 M35 else none else none) else none
theorem fX9_build_82_s (k7 : Int32 → xM → Option (Int32 × xM)) (x1 : Int32) (M : xM) : fX9_build_82 k7 x1 M = (if xin x1 8 then if (M 39 x1.toNatClampNeg) ≤ 0 then (fX9_build_124 k7 x1 M) else (if xin (M 37 6) 408 then xlt (xs1 M 40 (M 37 6).toNatClampNeg ((-2) - x1)) fun M32 => if xin (M32 37 6) 408 then xlt (xs1 M32 41 (M32 37 6).toNatClampNeg x1) fun M34 => xlt (xs1 M34 37 6 ((M34 37 6) + 1)) fun M35 => fX9_build_124 k7 x1 M35 else none else none) else none) := rfl
set_option maxHeartbeats 4000000 in
set_option maxRecDepth 100000 in
theorem kX9_build_82 {p : Program} {l : Launch} {e : Env} {s : State} {m : MethodId} {args : Array Value} {below : List Frame} {meth : Method} {c : Code} {w : xT} (X : xX p s m args meth c cX9_build 4 (some .int) RX9 w) (V : Int32 × xM) (k7 : Int32 → xM → Option (Int32 × xM)) (hk7 : ∀ (x1 : Int32) (M : xM) (H : Heap) (locs : List Loc) (ls : Array Slot), k7 x1 M = some V → xP w M H → xS w s H locs → lv_has ls 4 [(0, .ref (xa w 37)), (1, .int x1)] → W p l e { frames := 2, cells := 0, slots := 0, locals := 47 } s m args below meth c H locs 0 0 (xQ w (some (.int V.1)) V.2 below args s) (F0 m 7 ls [])) : ∀ (x1 : Int32) (M : xM) (H : Heap) (locs : List Loc) (ls : Array Slot), fX9_build_82 k7 x1 M = some V → xP w M H → xS w s H locs → lv_has ls 4 [(0, .ref (xa w 37)), (1, .int x1)] → W p l e { frames := 2, cells := 0, slots := 0, locals := 47 } s m args below meth c H locs 0 0 (xQ w (some (.int V.1)) V.2 below args s) (F0 m 82 ls []) := by
  have hx := X.1
  have hb := X.2.1
  have hown := X.2.2.2.2.2.1
  have hts := X.2.2.2.2.2.2.1
  intro x1 M H locs ls hm hP hS hl
  rw [fX9_build_82_s] at hm
  refine lv_aload_n hx hb dX9_build_82 rfl (lv_at hl 0 rfl) ?_
  refine xget xcX9 X hP 37 1 xy37 (by decide) xf_X9_13 rfl dX9_build_83 ?_
  refine lv_iload_n hx hb dX9_build_86 rfl (lv_at hl 1 rfl) ?_
  obtain ⟨hi29, hm⟩ := xifn hm
  refine xiald X hP 39 xy39 hi29 dX9_build_87 ?_
  refine lv_if_le (tgt := 124) hx hb dX9_build_88 (by decide) (fun c30 => ?_) (fun c30 => ?_)
  · have hm := xift c30 hm
    exact kX9_build_124 X V k7 hk7 x1 M _ _ _ hm hP hS (lv_sub hl [0, 1] rfl)
  · have hm := xiff c30 hm
    refine lv_aload_n hx hb dX9_build_91 rfl (lv_at hl 0 rfl) ?_
    refine xget xcX9 X hP 37 3 xy37 (by decide) xf_X9_16 rfl dX9_build_92 ?_
    refine lv_aload_n hx hb dX9_build_95 rfl (lv_at hl 0 rfl) ?_
    refine xgeti xcX9 X hP 37 6 xy37 (by decide) xf_X9_48 rfl dX9_build_96 ?_
    refine lv_bipush (v := (-2)) hx hb dX9_build_99 (by decide) ?_
    refine lv_iload_n hx hb dX9_build_101 rfl (lv_at hl 1 rfl) ?_
    refine lv_isub hx hb dX9_build_102 ?_
    obtain ⟨hi31, hm⟩ := xifn hm
    refine xiast X hP hS 40 xy40 hi31 dX9_build_103 (fun M32 H locs eM32 hP hS => ?_)
    have hm := xltE hm eM32
    refine lv_aload_n hx hb dX9_build_104 rfl (lv_at hl 0 rfl) ?_
    refine xget xcX9 X hP 37 4 xy37 (by decide) xf_X9_19 rfl dX9_build_105 ?_
    refine lv_aload_n hx hb dX9_build_108 rfl (lv_at hl 0 rfl) ?_
    refine xgeti xcX9 X hP 37 6 xy37 (by decide) xf_X9_48 rfl dX9_build_109 ?_
    refine lv_iload_n hx hb dX9_build_112 rfl (lv_at hl 1 rfl) ?_
    obtain ⟨hi33, hm⟩ := xifn hm
    refine xiast X hP hS 41 xy41 hi33 dX9_build_113 (fun M34 H locs eM34 hP hS => ?_)
    have hm := xltE hm eM34
    refine lv_aload_n hx hb dX9_build_114 rfl (lv_at hl 0 rfl) ?_
    refine lv_dup hx hb dX9_build_115 rfl ?_
    refine xgeti xcX9 X hP 37 6 xy37 (by decide) xf_X9_48 rfl dX9_build_116 ?_
    refine lv_iconst (v := 1) hx hb dX9_build_119 (by decide) ?_
    refine lv_iadd hx hb dX9_build_120 ?_
    refine xputi xcX9 X hP hS 37 6 xy37 (by decide) xf_X9_48 rfl (tyX9_ok 6 (by decide)) rfl dX9_build_121 (fun M35 H locs eM35 hP hS => ?_)
    have hm := xltE hm eM35
    exact kX9_build_124 X V k7 hk7 x1 M35 _ _ _ hm hP hS (lv_sub hl [0, 1] rfl)
def fX9_build_25 (k7 : Int32 → xM → Option (Int32 × xM)) : Nat → Int32 → Int32 → xM → Option (Int32 × xM)
  | 0 => fun _ _ _ => none
  | n + 1 => fun x1 x2 M => if xin x1 8 then if (M 39 x1.toNatClampNeg) ≤ x2 then (fX9_build_82 k7 x1 M) else (if xin ((400 * x1) + x2) 3200 then if xin (M 37 6) 408 then xlt (xs1 M 40 (M 37 6).toNatClampNeg (M 38 ((400 * x1) + x2).toNatClampNeg)) fun M40 => if xin (M40 37 6) 408 then xlt (xs1 M40 41 (M40 37 6).toNatClampNeg x1) fun M42 => xlt (xs1 M42 37 6 ((M42 37 6) + 1)) fun M43 => fX9_build_25 k7 n x1 (x2 + 1) M43 else none else none else none) else none
theorem fX9_build_25_s (k7 : Int32 → xM → Option (Int32 × xM)) (n : Nat) (x1 : Int32) (x2 : Int32) (M : xM) : fX9_build_25 k7 (n + 1) x1 x2 M = (if xin x1 8 then if (M 39 x1.toNatClampNeg) ≤ x2 then (fX9_build_82 k7 x1 M) else (if xin ((400 * x1) + x2) 3200 then if xin (M 37 6) 408 then xlt (xs1 M 40 (M 37 6).toNatClampNeg (M 38 ((400 * x1) + x2).toNatClampNeg)) fun M40 => if xin (M40 37 6) 408 then xlt (xs1 M40 41 (M40 37 6).toNatClampNeg x1) fun M42 => xlt (xs1 M42 37 6 ((M42 37 6) + 1)) fun M43 => fX9_build_25 k7 n x1 (x2 + 1) M43 else none else none else none) else none) := rfl
set_option maxHeartbeats 4000000 in
set_option maxRecDepth 100000 in
theorem kX9_build_25 {p : Program} {l : Launch} {e : Env} {s : State} {m : MethodId} {args : Array Value} {below : List Frame} {meth : Method} {c : Code} {w : xT} (X : xX p s m args meth c cX9_build 4 (some .int) RX9 w) (V : Int32 × xM) (k7 : Int32 → xM → Option (Int32 × xM)) (hk7 : ∀ (x1 : Int32) (M : xM) (H : Heap) (locs : List Loc) (ls : Array Slot), k7 x1 M = some V → xP w M H → xS w s H locs → lv_has ls 4 [(0, .ref (xa w 37)), (1, .int x1)] → W p l e { frames := 2, cells := 0, slots := 0, locals := 47 } s m args below meth c H locs 0 0 (xQ w (some (.int V.1)) V.2 below args s) (F0 m 7 ls [])) : ∀ (n : Nat) (x1 : Int32) (x2 : Int32) (M : xM) (H : Heap) (locs : List Loc) (ls : Array Slot), fX9_build_25 k7 n x1 x2 M = some V → xP w M H → xS w s H locs → lv_has ls 4 [(0, .ref (xa w 37)), (1, .int x1), (2, .int x2)] → W p l e { frames := 2, cells := 0, slots := 0, locals := 47 } s m args below meth c H locs 0 0 (xQ w (some (.int V.1)) V.2 below args s) (F0 m 25 ls []) := by
  have hx := X.1
  have hb := X.2.1
  have hown := X.2.2.2.2.2.1
  have hts := X.2.2.2.2.2.2.1
  intro n
  induction n with
  | zero => intro x1 x2 M H locs ls hm hP hS hl; exact xnon hm
  | succ n ih =>
    intro x1 x2 M H locs ls hm hP hS hl
    rw [fX9_build_25_s] at hm
    refine lv_iload_n hx hb dX9_build_25 rfl (lv_at hl 2 rfl) ?_
    refine lv_aload_n hx hb dX9_build_26 rfl (lv_at hl 0 rfl) ?_
    refine xget xcX9 X hP 37 1 xy37 (by decide) xf_X9_13 rfl dX9_build_27 ?_
    refine lv_iload_n hx hb dX9_build_30 rfl (lv_at hl 1 rfl) ?_
    obtain ⟨hi36, hm⟩ := xifn hm
    refine xiald X hP 39 xy39 hi36 dX9_build_31 ?_
    refine lv_icmp_ge (tgt := 82) hx hb dX9_build_32 (by decide) (fun c37 => ?_) (fun c37 => ?_)
    · have hm := xift c37 hm
      exact kX9_build_82 X V k7 hk7 x1 M _ _ _ hm hP hS (lv_sub hl [0, 1] rfl)
    · have hm := xiff c37 hm
      refine lv_aload_n hx hb dX9_build_35 rfl (lv_at hl 0 rfl) ?_
      refine xget xcX9 X hP 37 3 xy37 (by decide) xf_X9_16 rfl dX9_build_36 ?_
      refine lv_aload_n hx hb dX9_build_39 rfl (lv_at hl 0 rfl) ?_
      refine xgeti xcX9 X hP 37 6 xy37 (by decide) xf_X9_48 rfl dX9_build_40 ?_
      refine lv_aload_n hx hb dX9_build_43 rfl (lv_at hl 0 rfl) ?_
      refine xget xcX9 X hP 37 0 xy37 (by decide) xf_X9_7 rfl dX9_build_44 ?_
      refine lv_sipush (v := 400) hx hb dX9_build_47 (by decide) ?_
      refine lv_iload_n hx hb dX9_build_50 rfl (lv_at hl 1 rfl) ?_
      refine lv_imul hx hb dX9_build_51 ?_
      refine lv_iload_n hx hb dX9_build_52 rfl (lv_at hl 2 rfl) ?_
      refine lv_iadd hx hb dX9_build_53 ?_
      obtain ⟨hi38, hm⟩ := xifn hm
      refine xiald X hP 38 xy38 hi38 dX9_build_54 ?_
      obtain ⟨hi39, hm⟩ := xifn hm
      refine xiast X hP hS 40 xy40 hi39 dX9_build_55 (fun M40 H locs eM40 hP hS => ?_)
      have hm := xltE hm eM40
      refine lv_aload_n hx hb dX9_build_56 rfl (lv_at hl 0 rfl) ?_
      refine xget xcX9 X hP 37 4 xy37 (by decide) xf_X9_19 rfl dX9_build_57 ?_
      refine lv_aload_n hx hb dX9_build_60 rfl (lv_at hl 0 rfl) ?_
      refine xgeti xcX9 X hP 37 6 xy37 (by decide) xf_X9_48 rfl dX9_build_61 ?_
      refine lv_iload_n hx hb dX9_build_64 rfl (lv_at hl 1 rfl) ?_
      obtain ⟨hi41, hm⟩ := xifn hm
      refine xiast X hP hS 41 xy41 hi41 dX9_build_65 (fun M42 H locs eM42 hP hS => ?_)
      have hm := xltE hm eM42
      refine lv_aload_n hx hb dX9_build_66 rfl (lv_at hl 0 rfl) ?_
      refine lv_dup hx hb dX9_build_67 rfl ?_
      refine xgeti xcX9 X hP 37 6 xy37 (by decide) xf_X9_48 rfl dX9_build_68 ?_
      refine lv_iconst (v := 1) hx hb dX9_build_71 (by decide) ?_
      refine lv_iadd hx hb dX9_build_72 ?_
      refine xputi xcX9 X hP hS 37 6 xy37 (by decide) xf_X9_48 rfl (tyX9_ok 6 (by decide)) rfl dX9_build_73 (fun M43 H locs eM43 hP hS => ?_)
      have hm := xltE hm eM43
      refine lv_iinc (v := x2 + 1) (lv' := [(2, .int (x2 + 1)), (0, .ref (xa w 37)), (1, .int x1)]) hx hb dX9_build_76 hl (k := 2) rfl rfl (by decide) rfl (fun ls hl => ?_)
      refine lv_goto (tgt := 25) hx hb dX9_build_79 (by decide) ?_
      exact ih x1 (x2 + 1) M43 _ _ _ hm hP hS (lv_sub hl [1, 2, 0] rfl)
def fX9_build_7  : Nat → Int32 → xM → Option (Int32 × xM)
  | 0 => fun _ _ => none
  | n + 1 => fun x1 M => if 8 ≤ x1 then (fX9_build_130  M) else (if xin x1 8 then xlt (xs1 M 42 x1.toNatClampNeg (M 37 6)) fun M46 => fX9_build_25 (fX9_build_7 n) 4096 x1 0 M46 else none)
theorem fX9_build_7_s  (n : Nat) (x1 : Int32) (M : xM) : fX9_build_7  (n + 1) x1 M = (if 8 ≤ x1 then (fX9_build_130  M) else (if xin x1 8 then xlt (xs1 M 42 x1.toNatClampNeg (M 37 6)) fun M46 => fX9_build_25 (fX9_build_7 n) 4096 x1 0 M46 else none)) := rfl
set_option maxHeartbeats 4000000 in
set_option maxRecDepth 100000 in
theorem kX9_build_7 {p : Program} {l : Launch} {e : Env} {s : State} {m : MethodId} {args : Array Value} {below : List Frame} {meth : Method} {c : Code} {w : xT} (X : xX p s m args meth c cX9_build 4 (some .int) RX9 w) (V : Int32 × xM)  : ∀ (n : Nat) (x1 : Int32) (M : xM) (H : Heap) (locs : List Loc) (ls : Array Slot), fX9_build_7  n x1 M = some V → xP w M H → xS w s H locs → lv_has ls 4 [(0, .ref (xa w 37)), (1, .int x1)] → W p l e { frames := 2, cells := 0, slots := 0, locals := 47 } s m args below meth c H locs 0 0 (xQ w (some (.int V.1)) V.2 below args s) (F0 m 7 ls []) := by
  have hx := X.1
  have hb := X.2.1
  have hown := X.2.2.2.2.2.1
  have hts := X.2.2.2.2.2.2.1
  intro n
  induction n with
  | zero => intro x1 M H locs ls hm hP hS hl; exact xnon hm
  | succ n ih =>
    intro x1 M H locs ls hm hP hS hl
    rw [fX9_build_7_s] at hm
    refine lv_iload_n hx hb dX9_build_7 rfl (lv_at hl 1 rfl) ?_
    refine lv_bipush (v := 8) hx hb dX9_build_8 (by decide) ?_
    refine lv_icmp_ge (tgt := 130) hx hb dX9_build_10 (by decide) (fun c44 => ?_) (fun c44 => ?_)
    · have hm := xift c44 hm
      exact kX9_build_130 X V  M _ _ _ hm hP hS (lv_sub hl [0] rfl)
    · have hm := xiff c44 hm
      refine lv_aload_n hx hb dX9_build_13 rfl (lv_at hl 0 rfl) ?_
      refine xget xcX9 X hP 37 5 xy37 (by decide) xf_X9_22 rfl dX9_build_14 ?_
      refine lv_iload_n hx hb dX9_build_17 rfl (lv_at hl 1 rfl) ?_
      refine lv_aload_n hx hb dX9_build_18 rfl (lv_at hl 0 rfl) ?_
      refine xgeti xcX9 X hP 37 6 xy37 (by decide) xf_X9_48 rfl dX9_build_19 ?_
      obtain ⟨hi45, hm⟩ := xifn hm
      refine xiast X hP hS 42 xy42 hi45 dX9_build_22 (fun M46 H locs eM46 hP hS => ?_)
      have hm := xltE hm eM46
      refine lv_iconst (v := 0) hx hb dX9_build_23 (by decide) ?_
      refine lv_istore_n (lv' := [(2, .int 0), (0, .ref (xa w 37)), (1, .int x1)]) hx hb dX9_build_24 rfl hl (by decide) rfl (fun ls hl => ?_)
      exact kX9_build_25 X V (fX9_build_7 n) ih 4096 x1 0 M46 _ _ _ hm hP hS (lv_sub hl [1, 2, 0] rfl)
def fX9_build  (M : xM) : Option (Int32 × xM) := xlt (xs1 M 37 6 0) fun M47 => fX9_build_7 4096 0 M47
theorem fX9_build_s  (M : xM) : fX9_build M = (xlt (xs1 M 37 6 0) fun M47 => fX9_build_7 4096 0 M47) := rfl
set_option maxHeartbeats 4000000 in
set_option maxRecDepth 100000 in
theorem qX9_build (l : Launch) (w : xT)  (M : xM) (V : Int32 × xM) (hm : fX9_build M = some V) : xC l yX9_build (Cond.code yX9_build cX9_build 4 (some .int)) { frames := 2, cells := 0, slots := 0, locals := 47 } w [.ref (xa w 37)] M (some (.int V.1)) V.2 := by
  refine xC.of (by decide) (Nat.le_of_ble_eq_true rfl) ?_
  intro p e s m args below meth c ls X hP hS hl
  have hl : lv_has ls 4 [(0, .ref (xa w 37))] := hl
  have X : xX p s m args meth c cX9_build 4 (some .int) RX9 w := X
  have hx := X.1
  have hb := X.2.1
  have hown := X.2.2.2.2.2.1
  have hts := X.2.2.2.2.2.2.1
  rw [fX9_build_s] at hm
  refine lv_aload_n hx hb dX9_build_0 rfl (lv_at hl 0 rfl) ?_
  refine lv_iconst (v := 0) hx hb dX9_build_1 (by decide) ?_
  refine xputi xcX9 X hP hS 37 6 xy37 (by decide) xf_X9_48 rfl (tyX9_ok 6 (by decide)) rfl dX9_build_2 (fun M47 H locs eM47 hP hS => ?_)
  have hm := xltE hm eM47
  refine lv_iconst (v := 0) hx hb dX9_build_5 (by decide) ?_
  refine lv_istore_n (lv' := [(1, .int 0), (0, .ref (xa w 37))]) hx hb dX9_build_6 rfl hl (by decide) rfl (fun ls hl => ?_)
  exact kX9_build_7 X V  4096 0 M47 _ _ _ hm hP hS (lv_sub hl [1, 0] rfl)
def fX7_has (x1 : Int32) (M0 : xM) : Option (Int32) := if x1 < 0 then (some 0) else (if (M0 4 4) ≤ x1 then (some 0) else (some 1))
theorem fX7_has_s (x1 : Int32) (M0 : xM) : fX7_has x1 M0 = (if x1 < 0 then (some 0) else (if (M0 4 4) ≤ x1 then (some 0) else (some 1))) := rfl
set_option maxHeartbeats 4000000 in
set_option maxRecDepth 100000 in
theorem qX7_has (l : Launch) (w : xT) (x1 : Int32) (M0 : xM) (V : Int32) (hm : fX7_has x1 M0 = some V) : xC l yX7_has (Cond.code yX7_has cX7_has 2 (some .boolean)) { frames := 0, cells := 0, slots := 0, locals := 0 } w [.ref (xa w 4), .int x1] M0 (some (.int V)) M0 := by
  refine xC.of (by decide) (Nat.le_of_ble_eq_true rfl) ?_
  intro p e s m args below meth c ls X hP hS hl
  have hl : lv_has ls 2 [(0, .ref (xa w 4)), (1, .int x1)] := hl
  have X : xX p s m args meth c cX7_has 2 (some .boolean) RX7 w := X
  have hx := X.1
  have hb := X.2.1
  have hown := X.2.2.2.2.2.1
  have hts := X.2.2.2.2.2.2.1
  rw [fX7_has_s] at hm
  refine lv_iload_n hx hb dX7_has_0 rfl (lv_at hl 1 rfl) ?_
  refine lv_if_lt (tgt := 16) hx hb dX7_has_1 (by decide) (fun c1 => ?_) (fun c1 => ?_)
  · have hm := xift c1 hm
    refine lv_iconst (v := 0) hx hb dX7_has_16 (by decide) ?_
    obtain rfl := Option.some.inj hm
    exact xzret X hP hS rfl dX7_has_17
  · have hm := xiff c1 hm
    refine lv_iload_n hx hb dX7_has_4 rfl (lv_at hl 1 rfl) ?_
    refine lv_aload_n hx hb dX7_has_5 rfl (lv_at hl 0 rfl) ?_
    refine xgeti xcX7 X hP 4 4 xy4 (by decide) xf_X7_24 rfl dX7_has_6 ?_
    refine lv_icmp_ge (tgt := 16) hx hb dX7_has_9 (by decide) (fun c2 => ?_) (fun c2 => ?_)
    · have hm := xift c2 hm
      refine lv_iconst (v := 0) hx hb dX7_has_16 (by decide) ?_
      obtain rfl := Option.some.inj hm
      exact xzret X hP hS rfl dX7_has_17
    · have hm := xiff c2 hm
      refine lv_iconst (v := 1) hx hb dX7_has_12 (by decide) ?_
      refine lv_goto (tgt := 17) hx hb dX7_has_13 (by decide) ?_
      obtain rfl := Option.some.inj hm
      exact xzret X hP hS rfl dX7_has_17
def fX7_shown (x1 : Int32) (M0 : xM) : Option (Int32) := (fX7_isEnd x1 M0).bind fun v1 => if v1 = 0 then (if xin x1 408 then some ((M0 5 x1.toNatClampNeg) - 8) else none) else (if xin x1 408 then some ((-2) - (M0 5 x1.toNatClampNeg)) else none)
theorem fX7_shown_s (x1 : Int32) (M0 : xM) : fX7_shown x1 M0 = ((fX7_isEnd x1 M0).bind fun v1 => if v1 = 0 then (if xin x1 408 then some ((M0 5 x1.toNatClampNeg) - 8) else none) else (if xin x1 408 then some ((-2) - (M0 5 x1.toNatClampNeg)) else none)) := rfl
set_option maxHeartbeats 4000000 in
set_option maxRecDepth 100000 in
theorem qX7_shown (l : Launch) (w : xT) (x1 : Int32) (M0 : xM) (V : Int32) (hm : fX7_shown x1 M0 = some V) : xC l yX7_shown (Cond.code yX7_shown cX7_shown 2 (some .int)) { frames := 1, cells := 0, slots := 0, locals := 21 } w [.ref (xa w 4), .int x1] M0 (some (.int V)) M0 := by
  refine xC.of (by decide) (Nat.le_of_ble_eq_true rfl) ?_
  intro p e s m args below meth c ls X hP hS hl
  have hl : lv_has ls 2 [(0, .ref (xa w 4)), (1, .int x1)] := hl
  have X : xX p s m args meth c cX7_shown 2 (some .int) RX7 w := X
  have hx := X.1
  have hb := X.2.1
  have hown := X.2.2.2.2.2.1
  have hts := X.2.2.2.2.2.2.1
  rw [fX7_shown_s] at hm
  refine lv_aload_n hx hb dX7_shown_0 rfl (lv_at hl 0 rfl) ?_
  refine lv_iload_n hx hb dX7_shown_1 rfl (lv_at hl 1 rfl) ?_
  obtain ⟨v1, hg, hm⟩ := xbnd hm
  refine xcallV xm_X7_40 xt_X7_isEnd X hP hS (qX7_isEnd l w x1 M0 v1 hg) xy4 rfl ⟨Nat.le_of_ble_eq_true rfl, Nat.le_of_ble_eq_true rfl⟩ ⟨rfl, rfl⟩ hl.1 rfl (rest := []) rfl (Nat.le_of_ble_eq_true rfl) dX7_shown_2 ⟨Nat.zero_le _, Nat.zero_le _⟩ (fun H locs hP hS => ?_)
  refine W.eq (g2 := F0 m 5 ls [.int v1]) rfl ?_
  refine lv_if_eq (tgt := 20) hx hb dX7_shown_5 (by decide) (fun c2 => ?_) (fun c2 => ?_)
  · have hm := xift c2 hm
    refine lv_aload_n hx hb dX7_shown_20 rfl (lv_at hl 0 rfl) ?_
    refine xget xcX7 X hP 4 0 xy4 (by decide) xf_X7_9 rfl dX7_shown_21 ?_
    refine lv_iload_n hx hb dX7_shown_24 rfl (lv_at hl 1 rfl) ?_
    obtain ⟨hi3, hm⟩ := xifn hm
    refine xiald X hP 5 xy5 hi3 dX7_shown_25 ?_
    refine lv_bipush (v := 8) hx hb dX7_shown_26 (by decide) ?_
    refine lv_isub hx hb dX7_shown_28 ?_
    obtain rfl := Option.some.inj hm
    exact xiret X hP hS dX7_shown_29
  · have hm := xiff c2 hm
    refine lv_bipush (v := (-2)) hx hb dX7_shown_8 (by decide) ?_
    refine lv_aload_n hx hb dX7_shown_10 rfl (lv_at hl 0 rfl) ?_
    refine xget xcX7 X hP 4 0 xy4 (by decide) xf_X7_9 rfl dX7_shown_11 ?_
    refine lv_iload_n hx hb dX7_shown_14 rfl (lv_at hl 1 rfl) ?_
    obtain ⟨hi4, hm⟩ := xifn hm
    refine xiald X hP 5 xy5 hi4 dX7_shown_15 ?_
    refine lv_isub hx hb dX7_shown_16 ?_
    refine lv_goto (tgt := 29) hx hb dX7_shown_17 (by decide) ?_
    obtain rfl := Option.some.inj hm
    exact xiret X hP hS dX7_shown_29
def fX8_sign (x1 : Int32) (M0 : xM) : Option (Int32) := (fX7_has x1 M0).bind fun v1 => if v1 = 0 then (some (-1)) else ((fX7_shown x1 M0).bind fun v3 => some v3)
theorem fX8_sign_s (x1 : Int32) (M0 : xM) : fX8_sign x1 M0 = ((fX7_has x1 M0).bind fun v1 => if v1 = 0 then (some (-1)) else ((fX7_shown x1 M0).bind fun v3 => some v3)) := rfl
set_option maxHeartbeats 4000000 in
set_option maxRecDepth 100000 in
theorem qX8_sign (l : Launch) (w : xT) (x1 : Int32) (M0 : xM) (V : Int32) (hm : fX8_sign x1 M0 = some V) : xC l yX8_sign (Cond.code yX8_sign cX8_sign 2 (some .int)) { frames := 2, cells := 0, slots := 0, locals := 42 } w [.ref (xa w 0), .int x1] M0 (some (.int V)) M0 := by
  refine xC.of (by decide) (Nat.le_of_ble_eq_true rfl) ?_
  intro p e s m args below meth c ls X hP hS hl
  have hl : lv_has ls 2 [(0, .ref (xa w 0)), (1, .int x1)] := hl
  have X : xX p s m args meth c cX8_sign 2 (some .int) RX8 w := X
  have hx := X.1
  have hb := X.2.1
  have hown := X.2.2.2.2.2.1
  have hts := X.2.2.2.2.2.2.1
  rw [fX8_sign_s] at hm
  refine lv_aload_n hx hb dX8_sign_0 rfl (lv_at hl 0 rfl) ?_
  refine xget xcX8 X hP 0 1 xy0 (by decide) xf_X8_19 rfl dX8_sign_1 ?_
  refine lv_iload_n hx hb dX8_sign_4 rfl (lv_at hl 1 rfl) ?_
  obtain ⟨v1, hg, hm⟩ := xbnd hm
  refine xcallV xm_X8_99 xt_X7_has X hP hS (qX7_has l w x1 M0 v1 hg) xy4 rfl ⟨Nat.le_of_ble_eq_true rfl, Nat.le_of_ble_eq_true rfl⟩ ⟨rfl, rfl⟩ hl.1 rfl (rest := []) rfl (Nat.le_of_ble_eq_true rfl) dX8_sign_5 ⟨Nat.zero_le _, Nat.zero_le _⟩ (fun H locs hP hS => ?_)
  refine W.eq (g2 := F0 m 8 ls [.int v1]) rfl ?_
  refine lv_if_eq (tgt := 22) hx hb dX8_sign_8 (by decide) (fun c2 => ?_) (fun c2 => ?_)
  · have hm := xift c2 hm
    refine lv_iconst (v := (-1)) hx hb dX8_sign_22 (by decide) ?_
    obtain rfl := Option.some.inj hm
    exact xiret X hP hS dX8_sign_23
  · have hm := xiff c2 hm
    refine lv_aload_n hx hb dX8_sign_11 rfl (lv_at hl 0 rfl) ?_
    refine xget xcX8 X hP 0 1 xy0 (by decide) xf_X8_19 rfl dX8_sign_12 ?_
    refine lv_iload_n hx hb dX8_sign_15 rfl (lv_at hl 1 rfl) ?_
    obtain ⟨v3, hg, hm⟩ := xbnd hm
    refine xcallV xm_X8_102 xt_X7_shown X hP hS (qX7_shown l w x1 M0 v3 hg) xy4 rfl ⟨Nat.le_of_ble_eq_true rfl, Nat.le_of_ble_eq_true rfl⟩ ⟨rfl, rfl⟩ hl.1 rfl (rest := []) rfl (Nat.le_of_ble_eq_true rfl) dX8_sign_16 ⟨Nat.zero_le _, Nat.zero_le _⟩ (fun H locs hP hS => ?_)
    refine W.eq (g2 := F0 m 19 ls [.int v3]) rfl ?_
    refine lv_goto (tgt := 23) hx hb dX8_sign_19 (by decide) ?_
    obtain rfl := Option.some.inj hm
    exact xiret X hP hS dX8_sign_23
