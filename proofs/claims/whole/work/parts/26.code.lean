def fX9_common0 (x1 : Int32) (x2 : Int32) (M0 : xM) : Option (Int32) := if xin ((408 * x1) + x2) 166464 then some (M0 43 ((408 * x1) + x2).toNatClampNeg) else none
theorem fX9_common0_s (x1 : Int32) (x2 : Int32) (M0 : xM) : fX9_common0 x1 x2 M0 = (if xin ((408 * x1) + x2) 166464 then some (M0 43 ((408 * x1) + x2).toNatClampNeg) else none) := rfl
set_option maxHeartbeats 4000000 in
set_option maxRecDepth 100000 in
theorem qX9_common0 (l : Launch) (w : xT) (x1 : Int32) (x2 : Int32) (M0 : xM) (V : Int32) (hm : fX9_common0 x1 x2 M0 = some V) : xC l yX9_common0 (Cond.code yX9_common0 cX9_common0 3 (some .int)) { frames := 0, cells := 0, slots := 0, locals := 0 } w [.ref (xa w 37), .int x1, .int x2] M0 (some (.int V)) M0 := by
  refine xC.of (by decide) (Nat.le_of_ble_eq_true rfl) ?_
  intro p e s m args below meth c ls X hP hS hl
  have hl : lv_has ls 3 [(0, .ref (xa w 37)), (1, .int x1), (2, .int x2)] := hl
  have X : xX p s m args meth c cX9_common0 3 (some .int) RX9 w := X
  have hx := X.1
  have hb := X.2.1
  have hown := X.2.2.2.2.2.1
  have hts := X.2.2.2.2.2.2.1
  rw [fX9_common0_s] at hm
  refine lv_aload_n hx hb dX9_common0_0 rfl (lv_at hl 0 rfl) ?_
  refine xget xcX9 X hP 37 7 xy37 (by decide) xf_X9_26 rfl dX9_common0_1 ?_
  refine lv_sipush (v := 408) hx hb dX9_common0_4 (by decide) ?_
  refine lv_iload_n hx hb dX9_common0_7 rfl (lv_at hl 1 rfl) ?_
  refine lv_imul hx hb dX9_common0_8 ?_
  refine lv_iload_n hx hb dX9_common0_9 rfl (lv_at hl 2 rfl) ?_
  refine lv_iadd hx hb dX9_common0_10 ?_
  obtain ⟨hi1, hm⟩ := xifn hm
  refine xiald X hP 43 xy43 hi1 dX9_common0_11 ?_
  obtain rfl := Option.some.inj hm
  exact xiret X hP hS dX9_common0_12
def fX9_isLess_52  (x4 : Int32) (x5 : Int32) (M0 : xM) : Option (Int32) := if x5 ≤ x4 then (some 0) else (some 1)
theorem fX9_isLess_52_s  (x4 : Int32) (x5 : Int32) (M0 : xM) : fX9_isLess_52  x4 x5 M0 = (if x5 ≤ x4 then (some 0) else (some 1)) := rfl
set_option maxHeartbeats 4000000 in
set_option maxRecDepth 100000 in
theorem kX9_isLess_52 {p : Program} {l : Launch} {e : Env} {s : State} {m : MethodId} {args : Array Value} {below : List Frame} {meth : Method} {c : Code} {w : xT} (X : xX p s m args meth c cX9_isLess 6 (some .boolean) RX9 w) (V : Int32)  : ∀ (x4 : Int32) (x5 : Int32) (M0 : xM) (H : Heap) (locs : List Loc) (ls : Array Slot), fX9_isLess_52  x4 x5 M0 = some V → xP w M0 H → xS w s H locs → lv_has ls 6 [(4, .int x4), (5, .int x5)] → W p l e { frames := 1, cells := 0, slots := 0, locals := 22 } s m args below meth c H locs 0 0 (xQ w (some (.int V)) M0 below args s) (F0 m 52 ls []) := by
  have hx := X.1
  have hb := X.2.1
  have hown := X.2.2.2.2.2.1
  have hts := X.2.2.2.2.2.2.1
  intro x4 x5 M0 H locs ls hm hP hS hl
  rw [fX9_isLess_52_s] at hm
  refine lv_iload hx hb dX9_isLess_52 (lv_at hl 0 rfl) ?_
  refine lv_iload hx hb dX9_isLess_54 (lv_at hl 1 rfl) ?_
  refine lv_icmp_ge (tgt := 63) hx hb dX9_isLess_56 (by decide) (fun c1 => ?_) (fun c1 => ?_)
  · have hm := xift c1 hm
    refine lv_iconst (v := 0) hx hb dX9_isLess_63 (by decide) ?_
    obtain rfl := Option.some.inj hm
    exact xzret X hP hS rfl dX9_isLess_64
  · have hm := xiff c1 hm
    refine lv_iconst (v := 1) hx hb dX9_isLess_59 (by decide) ?_
    refine lv_goto (tgt := 64) hx hb dX9_isLess_60 (by decide) ?_
    obtain rfl := Option.some.inj hm
    exact xzret X hP hS rfl dX9_isLess_64
def fX9_isLess (x1 : Int32) (x2 : Int32) (M0 : xM) : Option (Int32) := (fX9_common0 x1 x2 M0).bind fun v2 => if xin (x1 + v2) 408 then xlt (M0 40 (x1 + v2).toNatClampNeg) fun y4 => if xin (x2 + v2) 408 then xlt (M0 40 (x2 + v2).toNatClampNeg) fun y6 => if 0 ≤ y4 then (fX9_isLess_52 y4 y6 M0) else (if 0 ≤ y6 then (fX9_isLess_52 y4 y6 M0) else (if y4 ≤ y6 then (some 0) else (some 1))) else none else none
theorem fX9_isLess_s (x1 : Int32) (x2 : Int32) (M0 : xM) : fX9_isLess x1 x2 M0 = ((fX9_common0 x1 x2 M0).bind fun v2 => if xin (x1 + v2) 408 then xlt (M0 40 (x1 + v2).toNatClampNeg) fun y4 => if xin (x2 + v2) 408 then xlt (M0 40 (x2 + v2).toNatClampNeg) fun y6 => if 0 ≤ y4 then (fX9_isLess_52 y4 y6 M0) else (if 0 ≤ y6 then (fX9_isLess_52 y4 y6 M0) else (if y4 ≤ y6 then (some 0) else (some 1))) else none else none) := rfl
set_option maxHeartbeats 4000000 in
set_option maxRecDepth 100000 in
theorem qX9_isLess (l : Launch) (w : xT) (x1 : Int32) (x2 : Int32) (M0 : xM) (V : Int32) (hm : fX9_isLess x1 x2 M0 = some V) : xC l yX9_isLess (Cond.code yX9_isLess cX9_isLess 6 (some .boolean)) { frames := 1, cells := 0, slots := 0, locals := 22 } w [.ref (xa w 37), .int x1, .int x2] M0 (some (.int V)) M0 := by
  refine xC.of (by decide) (Nat.le_of_ble_eq_true rfl) ?_
  intro p e s m args below meth c ls X hP hS hl
  have hl : lv_has ls 6 [(0, .ref (xa w 37)), (1, .int x1), (2, .int x2)] := hl
  have X : xX p s m args meth c cX9_isLess 6 (some .boolean) RX9 w := X
  have hx := X.1
  have hb := X.2.1
  have hown := X.2.2.2.2.2.1
  have hts := X.2.2.2.2.2.2.1
  rw [fX9_isLess_s] at hm
  refine lv_aload_n hx hb dX9_isLess_0 rfl (lv_at hl 0 rfl) ?_
  refine lv_iload_n hx hb dX9_isLess_1 rfl (lv_at hl 1 rfl) ?_
  refine lv_iload_n hx hb dX9_isLess_2 rfl (lv_at hl 2 rfl) ?_
  obtain ⟨v2, hg, hm⟩ := xbnd hm
  refine xcallV xm_X9_70 xt_X9_common0 X hP hS (qX9_common0 l w x1 x2 M0 v2 hg) xy37 rfl ⟨Nat.le_of_ble_eq_true rfl, Nat.le_of_ble_eq_true rfl⟩ ⟨rfl, rfl⟩ hl.1 rfl (rest := []) rfl (Nat.le_of_ble_eq_true rfl) dX9_isLess_3 ⟨Nat.zero_le _, Nat.zero_le _⟩ (fun H locs hP hS => ?_)
  refine W.eq (g2 := F0 m 6 ls [.int v2]) rfl ?_
  refine lv_istore_n (lv' := [(3, .int v2), (0, .ref (xa w 37)), (1, .int x1), (2, .int x2)]) hx hb dX9_isLess_6 rfl hl (by decide) rfl (fun ls hl => ?_)
  refine lv_aload_n hx hb dX9_isLess_7 rfl (lv_at hl 1 rfl) ?_
  refine xget xcX9 X hP 37 3 xy37 (by decide) xf_X9_16 rfl dX9_isLess_8 ?_
  refine lv_iload_n hx hb dX9_isLess_11 rfl (lv_at hl 2 rfl) ?_
  refine lv_iload_n hx hb dX9_isLess_12 rfl (lv_at hl 0 rfl) ?_
  refine lv_iadd hx hb dX9_isLess_13 ?_
  obtain ⟨hi3, hm⟩ := xifn hm
  refine xiald X hP 40 xy40 hi3 dX9_isLess_14 ?_
  refine lv_topi (fun y4 ey4 => ?_)
  have hm := xltE hm ey4
  refine lv_istore (lv' := [(4, .int y4), (3, .int v2), (0, .ref (xa w 37)), (1, .int x1), (2, .int x2)]) hx hb dX9_isLess_15 hl (by decide) rfl (fun ls hl => ?_)
  refine lv_aload_n hx hb dX9_isLess_17 rfl (lv_at hl 2 rfl) ?_
  refine xget xcX9 X hP 37 3 xy37 (by decide) xf_X9_16 rfl dX9_isLess_18 ?_
  refine lv_iload_n hx hb dX9_isLess_21 rfl (lv_at hl 4 rfl) ?_
  refine lv_iload_n hx hb dX9_isLess_22 rfl (lv_at hl 1 rfl) ?_
  refine lv_iadd hx hb dX9_isLess_23 ?_
  obtain ⟨hi5, hm⟩ := xifn hm
  refine xiald X hP 40 xy40 hi5 dX9_isLess_24 ?_
  refine lv_topi (fun y6 ey6 => ?_)
  have hm := xltE hm ey6
  refine lv_istore (lv' := [(5, .int y6), (4, .int y4), (3, .int v2), (0, .ref (xa w 37)), (1, .int x1), (2, .int x2)]) hx hb dX9_isLess_25 hl (by decide) rfl (fun ls hl => ?_)
  refine lv_iload hx hb dX9_isLess_27 (lv_at hl 1 rfl) ?_
  refine lv_if_ge (tgt := 52) hx hb dX9_isLess_29 (by decide) (fun c7 => ?_) (fun c7 => ?_)
  · have hm := xift c7 hm
    exact kX9_isLess_52 X V  y4 y6 M0 _ _ _ hm hP hS (lv_sub hl [1, 0] rfl)
  · have hm := xiff c7 hm
    refine lv_iload hx hb dX9_isLess_32 (lv_at hl 0 rfl) ?_
    refine lv_if_ge (tgt := 52) hx hb dX9_isLess_34 (by decide) (fun c8 => ?_) (fun c8 => ?_)
    · have hm := xift c8 hm
      exact kX9_isLess_52 X V  y4 y6 M0 _ _ _ hm hP hS (lv_sub hl [1, 0] rfl)
    · have hm := xiff c8 hm
      refine lv_iload hx hb dX9_isLess_37 (lv_at hl 1 rfl) ?_
      refine lv_iload hx hb dX9_isLess_39 (lv_at hl 0 rfl) ?_
      refine lv_icmp_le (tgt := 48) hx hb dX9_isLess_41 (by decide) (fun c9 => ?_) (fun c9 => ?_)
      · have hm := xift c9 hm
        refine lv_iconst (v := 0) hx hb dX9_isLess_48 (by decide) ?_
        refine lv_goto (tgt := 64) hx hb dX9_isLess_49 (by decide) ?_
        obtain rfl := Option.some.inj hm
        exact xzret X hP hS rfl dX9_isLess_64
      · have hm := xiff c9 hm
        refine lv_iconst (v := 1) hx hb dX9_isLess_44 (by decide) ?_
        refine lv_goto (tgt := 64) hx hb dX9_isLess_45 (by decide) ?_
        obtain rfl := Option.some.inj hm
        exact xzret X hP hS rfl dX9_isLess_64
