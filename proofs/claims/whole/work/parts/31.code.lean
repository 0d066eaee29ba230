def fX9_toEnd (x1 : Int32) (M0 : xM) : Option (Int32) := (fX9_common0 x1 x1 M0).bind fun v1 => some v1
theorem fX9_toEnd_s (x1 : Int32) (M0 : xM) : fX9_toEnd x1 M0 = ((fX9_common0 x1 x1 M0).bind fun v1 => some v1) := rfl
set_option maxHeartbeats 4000000 in
set_option maxRecDepth 100000 in
theorem qX9_toEnd (l : Launch) (w : xT) (x1 : Int32) (M0 : xM) (V : Int32) (hm : fX9_toEnd x1 M0 = some V) : xC l yX9_toEnd (Cond.code yX9_toEnd cX9_toEnd 2 (some .int)) { frames := 1, cells := 0, slots := 0, locals := 22 } w [.ref (xa w 37), .int x1] M0 (some (.int V)) M0 := by
  refine xC.of (by decide) (Nat.le_of_ble_eq_true rfl) ?_
  intro p e s m args below meth c ls X hP hS hl
  have hl : lv_has ls 2 [(0, .ref (xa w 37)), (1, .int x1)] := hl
  have X : xX p s m args meth c cX9_toEnd 2 (some .int) RX9 w := X
  have hx := X.1
  have hb := X.2.1
  have hown := X.2.2.2.2.2.1
  have hts := X.2.2.2.2.2.2.1
  rw [fX9_toEnd_s] at hm
  refine lv_aload_n hx hb dX9_toEnd_0 rfl (lv_at hl 0 rfl) ?_
  refine lv_iload_n hx hb dX9_toEnd_1 rfl (lv_at hl 1 rfl) ?_
  refine lv_iload_n hx hb dX9_toEnd_2 rfl (lv_at hl 1 rfl) ?_
  obtain ⟨v1, hg, hm⟩ := xbnd hm
  refine xcallV xm_X9_70 xt_X9_common0 X hP hS (qX9_common0 l w x1 x1 M0 v1 hg) xy37 rfl ⟨Nat.le_of_ble_eq_true rfl, Nat.le_of_ble_eq_true rfl⟩ ⟨rfl, rfl⟩ hl.1 rfl (rest := []) rfl (Nat.le_of_ble_eq_true rfl) dX9_toEnd_3 ⟨Nat.zero_le _, Nat.zero_le _⟩ (fun H locs hP hS => ?_)
  refine W.eq (g2 := F0 m 6 ls [.int v1]) rfl ?_
  obtain rfl := Option.some.inj hm
  exact xiret X hP hS dX9_toEnd_6
def fX9_different_4  : Nat → Int64 → Int32 → xM → Option (Int64)
  | 0 => fun _ _ _ => none
  | n + 1 => fun x1 x3 M0 => if (M0 37 6) ≤ x3 then (some x1) else (if xin x3 408 then (fX9_toEnd (M0 44 x3.toNatClampNeg) M0).bind fun v3 => (fX9_beside0 x3 M0).bind fun v4 => fX9_different_4 n (x1 + ((v3 - v4).toInt64)) (x3 + 1) M0 else none)
theorem fX9_different_4_s  (n : Nat) (x1 : Int64) (x3 : Int32) (M0 : xM) : fX9_different_4  (n + 1) x1 x3 M0 = (if (M0 37 6) ≤ x3 then (some x1) else (if xin x3 408 then (fX9_toEnd (M0 44 x3.toNatClampNeg) M0).bind fun v3 => (fX9_beside0 x3 M0).bind fun v4 => fX9_different_4 n (x1 + ((v3 - v4).toInt64)) (x3 + 1) M0 else none)) := rfl
set_option maxHeartbeats 4000000 in
set_option maxRecDepth 100000 in
theorem kX9_different_4 {p : Program} {l : Launch} {e : Env} {s : State} {m : MethodId} {args : Array Value} {below : List Frame} {meth : Method} {c : Code} {w : xT} (X : xX p s m args meth c cX9_different 4 (some .long) RX9 w) (V : Int64)  : ∀ (n : Nat) (x1 : Int64) (x3 : Int32) (M0 : xM) (H : Heap) (locs : List Loc) (ls : Array Slot), fX9_different_4  n x1 x3 M0 = some V → xP w M0 H → xS w s H locs → lv_has ls 4 [(0, .ref (xa w 37)), (1, .long x1), (3, .int x3)] → W p l e { frames := 2, cells := 0, slots := 0, locals := 43 } s m args below meth c H locs 0 0 (xQ w (some (.long V)) M0 below args s) (F0 m 4 ls []) := by
  have hx := X.1
  have hb := X.2.1
  have hown := X.2.2.2.2.2.1
  have hts := X.2.2.2.2.2.2.1
  intro n
  induction n with
  | zero => intro x1 x3 M0 H locs ls hm hP hS hl; exact xnon hm
  | succ n ih =>
    intro x1 x3 M0 H locs ls hm hP hS hl
    rw [fX9_different_4_s] at hm
    refine lv_iload_n hx hb dX9_different_4 rfl (lv_at hl 2 rfl) ?_
    refine lv_aload_n hx hb dX9_different_5 rfl (lv_at hl 0 rfl) ?_
    refine xgeti xcX9 X hP 37 6 xy37 (by decide) xf_X9_48 rfl dX9_different_6 ?_
    refine lv_icmp_ge (tgt := 38) hx hb dX9_different_9 (by decide) (fun c1 => ?_) (fun c1 => ?_)
    · have hm := xift c1 hm
      refine lv_lload_n hx hb dX9_different_38 rfl (lv_at hl 1 rfl) ?_
      obtain rfl := Option.some.inj hm
      exact xlret X hP hS dX9_different_39
    · have hm := xiff c1 hm
      refine lv_lload_n hx hb dX9_different_12 rfl (lv_at hl 1 rfl) ?_
      refine lv_aload_n hx hb dX9_different_13 rfl (lv_at hl 0 rfl) ?_
      refine lv_aload_n hx hb dX9_different_14 rfl (lv_at hl 0 rfl) ?_
      refine xget xcX9 X hP 37 8 xy37 (by decide) xf_X9_29 rfl dX9_different_15 ?_
      refine lv_iload_n hx hb dX9_different_18 rfl (lv_at hl 2 rfl) ?_
      obtain ⟨hi2, hm⟩ := xifn hm
      refine xiald X hP 44 xy44 hi2 dX9_different_19 ?_
      obtain ⟨v3, hg, hm⟩ := xbnd hm
      refine xcallV xm_X9_94 xt_X9_toEnd X hP hS (qX9_toEnd l w (M0 44 x3.toNatClampNeg) M0 v3 hg) xy37 rfl ⟨Nat.le_of_ble_eq_true rfl, Nat.le_of_ble_eq_true rfl⟩ ⟨rfl, rfl⟩ hl.1 rfl (rest := [.long x1]) rfl (Nat.le_of_ble_eq_true rfl) dX9_different_20 ⟨Nat.zero_le _, Nat.zero_le _⟩ (fun H locs hP hS => ?_)
      refine W.eq (g2 := F0 m 23 ls [.int v3, .long x1]) rfl ?_
      refine lv_aload_n hx hb dX9_different_23 rfl (lv_at hl 0 rfl) ?_
      refine lv_iload_n hx hb dX9_different_24 rfl (lv_at hl 2 rfl) ?_
      obtain ⟨v4, hg, hm⟩ := xbnd hm
      refine xcallV xm_X9_81 xt_X9_beside0 X hP hS (qX9_beside0 l w x3 M0 v4 hg) xy37 rfl ⟨Nat.le_of_ble_eq_true rfl, Nat.le_of_ble_eq_true rfl⟩ ⟨rfl, rfl⟩ hl.1 rfl (rest := [.int v3, .long x1]) rfl (Nat.le_of_ble_eq_true rfl) dX9_different_25 ⟨Nat.zero_le _, Nat.zero_le _⟩ (fun H locs hP hS => ?_)
      refine W.eq (g2 := F0 m 28 ls [.int v4, .int v3, .long x1]) rfl ?_
      refine lv_isub hx hb dX9_different_28 ?_
      refine lv_i2l hx hb dX9_different_29 rfl ?_
      refine lv_ladd hx hb dX9_different_30 ?_
      refine lv_lstore_n (lv' := [(1, .long (x1 + ((v3 - v4).toInt64))), (0, .ref (xa w 37)), (3, .int x3)]) hx hb dX9_different_31 rfl hl (by decide) rfl (fun ls hl => ?_)
      refine lv_iinc (v := x3 + 1) (lv' := [(3, .int (x3 + 1)), (1, .long (x1 + ((v3 - v4).toInt64))), (0, .ref (xa w 37))]) hx hb dX9_different_32 hl (k := 2) rfl rfl (by decide) rfl (fun ls hl => ?_)
      refine lv_goto (tgt := 4) hx hb dX9_different_35 (by decide) ?_
      exact ih (x1 + ((v3 - v4).toInt64)) (x3 + 1) M0 _ _ _ hm hP hS (lv_sub hl [2, 1, 0] rfl)
def fX9_different  (M0 : xM) : Option (Int64) := fX9_different_4 4096 0 0 M0
theorem fX9_different_s  (M0 : xM) : fX9_different M0 = (fX9_different_4 4096 0 0 M0) := rfl
set_option maxHeartbeats 4000000 in
set_option maxRecDepth 100000 in
theorem qX9_different (l : Launch) (w : xT)  (M0 : xM) (V : Int64) (hm : fX9_different M0 = some V) : xC l yX9_different (Cond.code yX9_different cX9_different 4 (some .long)) { frames := 2, cells := 0, slots := 0, locals := 43 } w [.ref (xa w 37)] M0 (some (.long V)) M0 := by
  refine xC.of (by decide) (Nat.le_of_ble_eq_true rfl) ?_
  intro p e s m args below meth c ls X hP hS hl
  have hl : lv_has ls 4 [(0, .ref (xa w 37))] := hl
  have X : xX p s m args meth c cX9_different 4 (some .long) RX9 w := X
  have hx := X.1
  have hb := X.2.1
  have hown := X.2.2.2.2.2.1
  have hts := X.2.2.2.2.2.2.1
  rw [fX9_different_s] at hm
  refine lv_lconst (v := 0) hx hb dX9_different_0 (by decide) ?_
  refine lv_lstore_n (lv' := [(1, .long 0), (0, .ref (xa w 37))]) hx hb dX9_different_1 rfl hl (by decide) rfl (fun ls hl => ?_)
  refine lv_iconst (v := 0) hx hb dX9_different_2 (by decide) ?_
  refine lv_istore_n (lv' := [(3, .int 0), (1, .long 0), (0, .ref (xa w 37))]) hx hb dX9_different_3 rfl hl (by decide) rfl (fun ls hl => ?_)
  exact kX9_different_4 X V  4096 0 0 M0 _ _ _ hm hP hS (lv_sub hl [2, 1, 0] rfl)
def fX5_isRunEnd (x1 : Int32) (x2 : Int32) (M0 : xM) : Option (Int32) := if x1 = (M0 4 4) then (some 1) else (if xin x1 408 then if x2 ≤ (M0 12 x1.toNatClampNeg) then (some 0) else (some 1) else none)
theorem fX5_isRunEnd_s (x1 : Int32) (x2 : Int32) (M0 : xM) : fX5_isRunEnd x1 x2 M0 = (if x1 = (M0 4 4) then (some 1) else (if xin x1 408 then if x2 ≤ (M0 12 x1.toNatClampNeg) then (some 0) else (some 1) else none)) := rfl
set_option maxHeartbeats 4000000 in
set_option maxRecDepth 100000 in
theorem qX5_isRunEnd (l : Launch) (w : xT) (x1 : Int32) (x2 : Int32) (M0 : xM) (V : Int32) (hm : fX5_isRunEnd x1 x2 M0 = some V) : xC l yX5_isRunEnd (Cond.code yX5_isRunEnd cX5_isRunEnd 3 (some .boolean)) { frames := 0, cells := 0, slots := 0, locals := 0 } w [.ref (xa w 34), .int x1, .int x2] M0 (some (.int V)) M0 := by
  refine xC.of (by decide) (Nat.le_of_ble_eq_true rfl) ?_
  intro p e s m args below meth c ls X hP hS hl
  have hl : lv_has ls 3 [(0, .ref (xa w 34)), (1, .int x1), (2, .int x2)] := hl
  have X : xX p s m args meth c cX5_isRunEnd 3 (some .boolean) RX5 w := X
  have hx := X.1
  have hb := X.2.1
  have hown := X.2.2.2.2.2.1
  have hts := X.2.2.2.2.2.2.1
  rw [fX5_isRunEnd_s] at hm
  refine lv_iload_n hx hb dX5_isRunEnd_0 rfl (lv_at hl 1 rfl) ?_
  refine lv_aload_n hx hb dX5_isRunEnd_1 rfl (lv_at hl 0 rfl) ?_
  refine xget xcX5 X hP 34 0 xy34 (by decide) xf_X5_9 rfl dX5_isRunEnd_2 ?_
  refine xgeti xcX7 X hP 4 4 xy4 (by decide) xf_X5_19 rfl dX5_isRunEnd_5 ?_
  refine lv_icmp_eq (tgt := 24) hx hb dX5_isRunEnd_8 (by decide) (fun c1 => ?_) (fun c1 => ?_)
  · have hm := xift c1 hm
    refine lv_iconst (v := 1) hx hb dX5_isRunEnd_24 (by decide) ?_
    refine lv_goto (tgt := 29) hx hb dX5_isRunEnd_25 (by decide) ?_
    obtain rfl := Option.some.inj hm
    exact xzret X hP hS rfl dX5_isRunEnd_29
  · have hm := xiff c1 hm
    refine lv_aload_n hx hb dX5_isRunEnd_11 rfl (lv_at hl 0 rfl) ?_
    refine xget xcX5 X hP 34 1 xy34 (by decide) xf_X5_15 rfl dX5_isRunEnd_12 ?_
    refine xget xcX3 X hP 9 2 xy9 (by decide) xf_X5_35 rfl dX5_isRunEnd_15 ?_
    refine lv_iload_n hx hb dX5_isRunEnd_18 rfl (lv_at hl 1 rfl) ?_
    obtain ⟨hi2, hm⟩ := xifn hm
    refine xiald X hP 12 xy12 hi2 dX5_isRunEnd_19 ?_
    refine lv_iload_n hx hb dX5_isRunEnd_20 rfl (lv_at hl 2 rfl) ?_
    refine lv_icmp_ge (tgt := 28) hx hb dX5_isRunEnd_21 (by decide) (fun c3 => ?_) (fun c3 => ?_)
    · have hm := xift c3 hm
      refine lv_iconst (v := 0) hx hb dX5_isRunEnd_28 (by decide) ?_
      obtain rfl := Option.some.inj hm
      exact xzret X hP hS rfl dX5_isRunEnd_29
    · have hm := xiff c3 hm
      refine lv_iconst (v := 1) hx hb dX5_isRunEnd_24 (by decide) ?_
      refine lv_goto (tgt := 29) hx hb dX5_isRunEnd_25 (by decide) ?_
      obtain rfl := Option.some.inj hm
      exact xzret X hP hS rfl dX5_isRunEnd_29
def fX5_isEnough_42  (x4 : Int32) (s0 : Int32) (M0 : xM) : Option (Int32) := if s0 < x4 then (some 0) else (some 1)
theorem fX5_isEnough_42_s  (x4 : Int32) (s0 : Int32) (M0 : xM) : fX5_isEnough_42  x4 s0 M0 = (if s0 < x4 then (some 0) else (some 1)) := rfl
set_option maxHeartbeats 4000000 in
set_option maxRecDepth 100000 in
theorem kX5_isEnough_42 {p : Program} {l : Launch} {e : Env} {s : State} {m : MethodId} {args : Array Value} {below : List Frame} {meth : Method} {c : Code} {w : xT} (X : xX p s m args meth c cX5_isEnough 6 (some .boolean) RX5 w) (V : Int32)  : ∀ (x4 : Int32) (s0 : Int32) (M0 : xM) (H : Heap) (locs : List Loc) (ls : Array Slot), fX5_isEnough_42  x4 s0 M0 = some V → xP w M0 H → xS w s H locs → lv_has ls 6 [(4, .int x4)] → W p l e { frames := 2, cells := 0, slots := 0, locals := 44 } s m args below meth c H locs 0 0 (xQ w (some (.int V)) M0 below args s) (F0 m 42 ls [.int s0]) := by
  have hx := X.1
  have hb := X.2.1
  have hown := X.2.2.2.2.2.1
  have hts := X.2.2.2.2.2.2.1
  intro x4 s0 M0 H locs ls hm hP hS hl
  rw [fX5_isEnough_42_s] at hm
  refine lv_iload hx hb dX5_isEnough_42 (lv_at hl 0 rfl) ?_
  refine lv_icmp_lt (tgt := 51) hx hb dX5_isEnough_44 (by decide) (fun c1 => ?_) (fun c1 => ?_)
  · have hm := xift c1 hm
    refine lv_iconst (v := 0) hx hb dX5_isEnough_51 (by decide) ?_
    obtain rfl := Option.some.inj hm
    exact xzret X hP hS rfl dX5_isEnough_52
  · have hm := xiff c1 hm
    refine lv_iconst (v := 1) hx hb dX5_isEnough_47 (by decide) ?_
    refine lv_goto (tgt := 52) hx hb dX5_isEnough_48 (by decide) ?_
    obtain rfl := Option.some.inj hm
    exact xzret X hP hS rfl dX5_isEnough_52
def fX5_isEnough (x1 : Int32) (x2 : Int32) (x3 : Int32) (x4 : Int32) (x5 : Int32) (M0 : xM) : Option (Int32) := if xin x1 408 then (fX7_signsFrom (M0 10 x1.toNatClampNeg) M0).bind fun v3 => if x3 ≤ v3 then (if x5 = 0 then (fX5_isEnough_42 x4 (x2 - x1) M0) else ((fX3_countTexts x1 x2 M0).bind fun v6 => fX5_isEnough_42 x4 v6 M0)) else (some 0) else none
theorem fX5_isEnough_s (x1 : Int32) (x2 : Int32) (x3 : Int32) (x4 : Int32) (x5 : Int32) (M0 : xM) : fX5_isEnough x1 x2 x3 x4 x5 M0 = (if xin x1 408 then (fX7_signsFrom (M0 10 x1.toNatClampNeg) M0).bind fun v3 => if x3 ≤ v3 then (if x5 = 0 then (fX5_isEnough_42 x4 (x2 - x1) M0) else ((fX3_countTexts x1 x2 M0).bind fun v6 => fX5_isEnough_42 x4 v6 M0)) else (some 0) else none) := rfl
set_option maxHeartbeats 4000000 in
set_option maxRecDepth 100000 in
theorem qX5_isEnough (l : Launch) (w : xT) (x1 : Int32) (x2 : Int32) (x3 : Int32) (x4 : Int32) (x5 : Int32) (M0 : xM) (V : Int32) (hm : fX5_isEnough x1 x2 x3 x4 x5 M0 = some V) : xC l yX5_isEnough (Cond.code yX5_isEnough cX5_isEnough 6 (some .boolean)) { frames := 2, cells := 0, slots := 0, locals := 44 } w [.ref (xa w 34), .int x1, .int x2, .int x3, .int x4, .int x5] M0 (some (.int V)) M0 := by
  refine xC.of (by decide) (Nat.le_of_ble_eq_true rfl) ?_
  intro p e s m args below meth c ls X hP hS hl
  have hl : lv_has ls 6 [(0, .ref (xa w 34)), (1, .int x1), (2, .int x2), (3, .int x3), (4, .int x4), (5, .int x5)] := hl
  have X : xX p s m args meth c cX5_isEnough 6 (some .boolean) RX5 w := X
  have hx := X.1
  have hb := X.2.1
  have hown := X.2.2.2.2.2.1
  have hts := X.2.2.2.2.2.2.1
  rw [fX5_isEnough_s] at hm
  refine lv_aload_n hx hb dX5_isEnough_0 rfl (lv_at hl 0 rfl) ?_
  refine xget xcX5 X hP 34 0 xy34 (by decide) xf_X5_9 rfl dX5_isEnough_1 ?_
  refine lv_aload_n hx hb dX5_isEnough_4 rfl (lv_at hl 0 rfl) ?_
  refine xget xcX5 X hP 34 1 xy34 (by decide) xf_X5_15 rfl dX5_isEnough_5 ?_
  refine xget xcX3 X hP 9 0 xy9 (by decide) xf_X5_25 rfl dX5_isEnough_8 ?_
  refine lv_iload_n hx hb dX5_isEnough_11 rfl (lv_at hl 1 rfl) ?_
  obtain ⟨hi2, hm⟩ := xifn hm
  refine xiald X hP 10 xy10 hi2 dX5_isEnough_12 ?_
  obtain ⟨v3, hg, hm⟩ := xbnd hm
  refine xcallV xm_X5_31 xt_X7_signsFrom X hP hS (qX7_signsFrom l w (M0 10 x1.toNatClampNeg) M0 v3 hg) xy4 rfl ⟨Nat.le_of_ble_eq_true rfl, Nat.le_of_ble_eq_true rfl⟩ ⟨rfl, rfl⟩ hl.1 rfl (rest := []) rfl (Nat.le_of_ble_eq_true rfl) dX5_isEnough_13 ⟨Nat.zero_le _, Nat.zero_le _⟩ (fun H locs hP hS => ?_)
  refine W.eq (g2 := F0 m 16 ls [.int v3]) rfl ?_
  refine lv_iload_n hx hb dX5_isEnough_16 rfl (lv_at hl 3 rfl) ?_
  refine lv_icmp_ge (tgt := 22) hx hb dX5_isEnough_17 (by decide) (fun c4 => ?_) (fun c4 => ?_)
  · have hm := xift c4 hm
    refine lv_iload hx hb dX5_isEnough_22 (lv_at hl 5 rfl) ?_
    refine lv_if_eq (tgt := 39) hx hb dX5_isEnough_24 (by decide) (fun c5 => ?_) (fun c5 => ?_)
    · have hm := xift c5 hm
      refine lv_iload_n hx hb dX5_isEnough_39 rfl (lv_at hl 2 rfl) ?_
      refine lv_iload_n hx hb dX5_isEnough_40 rfl (lv_at hl 1 rfl) ?_
      refine lv_isub hx hb dX5_isEnough_41 ?_
      exact kX5_isEnough_42 X V  x4 (x2 - x1) M0 _ _ _ hm hP hS (lv_sub hl [4] rfl)
    · have hm := xiff c5 hm
      refine lv_aload_n hx hb dX5_isEnough_27 rfl (lv_at hl 0 rfl) ?_
      refine xget xcX5 X hP 34 1 xy34 (by decide) xf_X5_15 rfl dX5_isEnough_28 ?_
      refine lv_iload_n hx hb dX5_isEnough_31 rfl (lv_at hl 1 rfl) ?_
      refine lv_iload_n hx hb dX5_isEnough_32 rfl (lv_at hl 2 rfl) ?_
      obtain ⟨v6, hg, hm⟩ := xbnd hm
      refine xcallV xm_X5_61 xt_X3_countTexts X hP hS (qX3_countTexts l w x1 x2 M0 v6 hg) xy9 rfl ⟨Nat.le_of_ble_eq_true rfl, Nat.le_of_ble_eq_true rfl⟩ ⟨rfl, rfl⟩ hl.1 rfl (rest := []) rfl (Nat.le_of_ble_eq_true rfl) dX5_isEnough_33 ⟨Nat.zero_le _, Nat.zero_le _⟩ (fun H locs hP hS => ?_)
      refine W.eq (g2 := F0 m 36 ls [.int v6]) rfl ?_
      refine lv_goto (tgt := 42) hx hb dX5_isEnough_36 (by decide) ?_
      exact kX5_isEnough_42 X V  x4 v6 M0 _ _ _ hm hP hS (lv_sub hl [4] rfl)
  · have hm := xiff c4 hm
    refine lv_iconst (v := 0) hx hb dX5_isEnough_20 (by decide) ?_
    obtain rfl := Option.some.inj hm
    exact xzret X hP hS rfl dX5_isEnough_21
def fX5_countStanding_51 (k8 : Int32 → Int32 → Int32 → Int32 → Int32 → xM → Option (Int32)) (x1 : Int32) (x2 : Int32) (x3 : Int32) (x4 : Int32) (x5 : Int32) (M0 : xM) : Option (Int32) := k8 x1 x2 x3 x4 (x5 + 1) M0
theorem fX5_countStanding_51_s (k8 : Int32 → Int32 → Int32 → Int32 → Int32 → xM → Option (Int32)) (x1 : Int32) (x2 : Int32) (x3 : Int32) (x4 : Int32) (x5 : Int32) (M0 : xM) : fX5_countStanding_51 k8 x1 x2 x3 x4 x5 M0 = (k8 x1 x2 x3 x4 (x5 + 1) M0) := rfl
set_option maxHeartbeats 4000000 in
set_option maxRecDepth 100000 in
theorem kX5_countStanding_51 {p : Program} {l : Launch} {e : Env} {s : State} {m : MethodId} {args : Array Value} {below : List Frame} {meth : Method} {c : Code} {w : xT} (X : xX p s m args meth c cX5_countStanding 6 (some .int) RX5 w) (V : Int32) (k8 : Int32 → Int32 → Int32 → Int32 → Int32 → xM → Option (Int32)) (hk8 : ∀ (x1 : Int32) (x2 : Int32) (x3 : Int32) (x4 : Int32) (x5 : Int32) (M : xM) (H : Heap) (locs : List Loc) (ls : Array Slot), k8 x1 x2 x3 x4 x5 M = some V → xP w M H → xS w s H locs → lv_has ls 6 [(0, .ref (xa w 34)), (1, .int x1), (2, .int x2), (3, .int x3), (4, .int x4), (5, .int x5)] → W p l e { frames := 3, cells := 0, slots := 0, locals := 69 } s m args below meth c H locs 0 0 (xQ w (some (.int V)) M below args s) (F0 m 8 ls [])) : ∀ (x1 : Int32) (x2 : Int32) (x3 : Int32) (x4 : Int32) (x5 : Int32) (M0 : xM) (H : Heap) (locs : List Loc) (ls : Array Slot), fX5_countStanding_51 k8 x1 x2 x3 x4 x5 M0 = some V → xP w M0 H → xS w s H locs → lv_has ls 6 [(0, .ref (xa w 34)), (1, .int x1), (2, .int x2), (3, .int x3), (4, .int x4), (5, .int x5)] → W p l e { frames := 3, cells := 0, slots := 0, locals := 69 } s m args below meth c H locs 0 0 (xQ w (some (.int V)) M0 below args s) (F0 m 51 ls []) := by
  have hx := X.1
  have hb := X.2.1
  have hown := X.2.2.2.2.2.1
  have hts := X.2.2.2.2.2.2.1
  intro x1 x2 x3 x4 x5 M0 H locs ls hm hP hS hl
  rw [fX5_countStanding_51_s] at hm
  refine lv_iinc (v := x5 + 1) (lv' := [(5, .int (x5 + 1)), (0, .ref (xa w 34)), (1, .int x1), (2, .int x2), (3, .int x3), (4, .int x4)]) hx hb dX5_countStanding_51 hl (k := 5) rfl rfl (by decide) rfl (fun ls hl => ?_)
  refine lv_goto (tgt := 8) hx hb dX5_countStanding_54 (by decide) ?_
  exact hk8 x1 x2 x3 x4 (x5 + 1) M0 _ _ _ hm hP hS (lv_sub hl [1, 2, 3, 4, 5, 0] rfl)
def fX5_countStanding_47 (k8 : Int32 → Int32 → Int32 → Int32 → Int32 → xM → Option (Int32)) (x1 : Int32) (x2 : Int32) (x3 : Int32) (x5 : Int32) (M0 : xM) : Option (Int32) := fX5_countStanding_51 k8 x1 x2 x3 x5 x5 M0
theorem fX5_countStanding_47_s (k8 : Int32 → Int32 → Int32 → Int32 → Int32 → xM → Option (Int32)) (x1 : Int32) (x2 : Int32) (x3 : Int32) (x5 : Int32) (M0 : xM) : fX5_countStanding_47 k8 x1 x2 x3 x5 M0 = (fX5_countStanding_51 k8 x1 x2 x3 x5 x5 M0) := rfl
set_option maxHeartbeats 4000000 in
set_option maxRecDepth 100000 in
theorem kX5_countStanding_47 {p : Program} {l : Launch} {e : Env} {s : State} {m : MethodId} {args : Array Value} {below : List Frame} {meth : Method} {c : Code} {w : xT} (X : xX p s m args meth c cX5_countStanding 6 (some .int) RX5 w) (V : Int32) (k8 : Int32 → Int32 → Int32 → Int32 → Int32 → xM → Option (Int32)) (hk8 : ∀ (x1 : Int32) (x2 : Int32) (x3 : Int32) (x4 : Int32) (x5 : Int32) (M : xM) (H : Heap) (locs : List Loc) (ls : Array Slot), k8 x1 x2 x3 x4 x5 M = some V → xP w M H → xS w s H locs → lv_has ls 6 [(0, .ref (xa w 34)), (1, .int x1), (2, .int x2), (3, .int x3), (4, .int x4), (5, .int x5)] → W p l e { frames := 3, cells := 0, slots := 0, locals := 69 } s m args below meth c H locs 0 0 (xQ w (some (.int V)) M below args s) (F0 m 8 ls [])) : ∀ (x1 : Int32) (x2 : Int32) (x3 : Int32) (x5 : Int32) (M0 : xM) (H : Heap) (locs : List Loc) (ls : Array Slot), fX5_countStanding_47 k8 x1 x2 x3 x5 M0 = some V → xP w M0 H → xS w s H locs → lv_has ls 6 [(0, .ref (xa w 34)), (1, .int x1), (2, .int x2), (3, .int x3), (5, .int x5)] → W p l e { frames := 3, cells := 0, slots := 0, locals := 69 } s m args below meth c H locs 0 0 (xQ w (some (.int V)) M0 below args s) (F0 m 47 ls []) := by
  have hx := X.1
  have hb := X.2.1
  have hown := X.2.2.2.2.2.1
  have hts := X.2.2.2.2.2.2.1
  intro x1 x2 x3 x5 M0 H locs ls hm hP hS hl
  rw [fX5_countStanding_47_s] at hm
  refine lv_iload hx hb dX5_countStanding_47 (lv_at hl 4 rfl) ?_
  refine lv_istore (lv' := [(4, .int x5), (0, .ref (xa w 34)), (1, .int x1), (2, .int x2), (3, .int x3), (5, .int x5)]) hx hb dX5_countStanding_49 hl (by decide) rfl (fun ls hl => ?_)
  exact kX5_countStanding_51 X V k8 hk8 x1 x2 x3 x5 x5 M0 _ _ _ hm hP hS (lv_sub hl [1, 2, 3, 4, 0, 5] rfl)
def fX5_countStanding_8  : Nat → Int32 → Int32 → Int32 → Int32 → Int32 → xM → Option (Int32)
  | 0 => fun _ _ _ _ _ _ => none
  | n + 1 => fun x1 x2 x3 x4 x5 M0 => if (M0 4 4) < x5 then (some x3) else ((fX5_isRunEnd x5 x1 M0).bind fun v2 => if v2 = 0 then (fX5_countStanding_51 (fX5_countStanding_8 n) x1 x2 x3 x4 x5 M0) else ((fX5_isEnough x4 x5 x1 x2 0 M0).bind fun v4 => if v4 = 0 then (fX5_countStanding_47 (fX5_countStanding_8 n) x1 x2 x3 x5 M0) else (fX5_countStanding_47 (fX5_countStanding_8 n) x1 x2 (x3 + 1) x5 M0)))
theorem fX5_countStanding_8_s  (n : Nat) (x1 : Int32) (x2 : Int32) (x3 : Int32) (x4 : Int32) (x5 : Int32) (M0 : xM) : fX5_countStanding_8  (n + 1) x1 x2 x3 x4 x5 M0 = (if (M0 4 4) < x5 then (some x3) else ((fX5_isRunEnd x5 x1 M0).bind fun v2 => if v2 = 0 then (fX5_countStanding_51 (fX5_countStanding_8 n) x1 x2 x3 x4 x5 M0) else ((fX5_isEnough x4 x5 x1 x2 0 M0).bind fun v4 => if v4 = 0 then (fX5_countStanding_47 (fX5_countStanding_8 n) x1 x2 x3 x5 M0) else (fX5_countStanding_47 (fX5_countStanding_8 n) x1 x2 (x3 + 1) x5 M0)))) := rfl
set_option maxHeartbeats 4000000 in
set_option maxRecDepth 100000 in
theorem kX5_countStanding_8 {p : Program} {l : Launch} {e : Env} {s : State} {m : MethodId} {args : Array Value} {below : List Frame} {meth : Method} {c : Code} {w : xT} (X : xX p s m args meth c cX5_countStanding 6 (some .int) RX5 w) (V : Int32)  : ∀ (n : Nat) (x1 : Int32) (x2 : Int32) (x3 : Int32) (x4 : Int32) (x5 : Int32) (M0 : xM) (H : Heap) (locs : List Loc) (ls : Array Slot), fX5_countStanding_8  n x1 x2 x3 x4 x5 M0 = some V → xP w M0 H → xS w s H locs → lv_has ls 6 [(0, .ref (xa w 34)), (1, .int x1), (2, .int x2), (3, .int x3), (4, .int x4), (5, .int x5)] → W p l e { frames := 3, cells := 0, slots := 0, locals := 69 } s m args below meth c H locs 0 0 (xQ w (some (.int V)) M0 below args s) (F0 m 8 ls []) := by
  have hx := X.1
  have hb := X.2.1
  have hown := X.2.2.2.2.2.1
  have hts := X.2.2.2.2.2.2.1
  intro n
  induction n with
  | zero => intro x1 x2 x3 x4 x5 M0 H locs ls hm hP hS hl; exact xnon hm
  | succ n ih =>
    intro x1 x2 x3 x4 x5 M0 H locs ls hm hP hS hl
    rw [fX5_countStanding_8_s] at hm
    refine lv_iload hx hb dX5_countStanding_8 (lv_at hl 5 rfl) ?_
    refine lv_aload_n hx hb dX5_countStanding_10 rfl (lv_at hl 0 rfl) ?_
    refine xget xcX5 X hP 34 0 xy34 (by decide) xf_X5_9 rfl dX5_countStanding_11 ?_
    refine xgeti xcX7 X hP 4 4 xy4 (by decide) xf_X5_19 rfl dX5_countStanding_14 ?_
    refine lv_icmp_gt (tgt := 57) hx hb dX5_countStanding_17 (by decide) (fun c1 => ?_) (fun c1 => ?_)
    · have hm := xift c1 hm
      refine lv_iload_n hx hb dX5_countStanding_57 rfl (lv_at hl 3 rfl) ?_
      obtain rfl := Option.some.inj hm
      exact xiret X hP hS dX5_countStanding_58
    · have hm := xiff c1 hm
      refine lv_aload_n hx hb dX5_countStanding_20 rfl (lv_at hl 0 rfl) ?_
      refine lv_iload hx hb dX5_countStanding_21 (lv_at hl 5 rfl) ?_
      refine lv_iload_n hx hb dX5_countStanding_23 rfl (lv_at hl 1 rfl) ?_
      obtain ⟨v2, hg, hm⟩ := xbnd hm
      refine xcallV xm_X5_38 xt_X5_isRunEnd X hP hS (qX5_isRunEnd l w x5 x1 M0 v2 hg) xy34 rfl ⟨Nat.le_of_ble_eq_true rfl, Nat.le_of_ble_eq_true rfl⟩ ⟨rfl, rfl⟩ hl.1 rfl (rest := []) rfl (Nat.le_of_ble_eq_true rfl) dX5_countStanding_24 ⟨Nat.zero_le _, Nat.zero_le _⟩ (fun H locs hP hS => ?_)
      refine W.eq (g2 := F0 m 27 ls [.int v2]) rfl ?_
      refine lv_if_eq (tgt := 51) hx hb dX5_countStanding_27 (by decide) (fun c3 => ?_) (fun c3 => ?_)
      · have hm := xift c3 hm
        exact kX5_countStanding_51 X V (fX5_countStanding_8 n) ih x1 x2 x3 x4 x5 M0 _ _ _ hm hP hS (lv_sub hl [0, 1, 2, 3, 4, 5] rfl)
      · have hm := xiff c3 hm
        refine lv_aload_n hx hb dX5_countStanding_30 rfl (lv_at hl 0 rfl) ?_
        refine lv_iload hx hb dX5_countStanding_31 (lv_at hl 4 rfl) ?_
        refine lv_iload hx hb dX5_countStanding_33 (lv_at hl 5 rfl) ?_
        refine lv_iload_n hx hb dX5_countStanding_35 rfl (lv_at hl 1 rfl) ?_
        refine lv_iload_n hx hb dX5_countStanding_36 rfl (lv_at hl 2 rfl) ?_
        refine lv_iconst (v := 0) hx hb dX5_countStanding_37 (by decide) ?_
        obtain ⟨v4, hg, hm⟩ := xbnd hm
        refine xcallV xm_X5_42 xt_X5_isEnough X hP hS (qX5_isEnough l w x4 x5 x1 x2 0 M0 v4 hg) xy34 rfl ⟨Nat.le_of_ble_eq_true rfl, Nat.le_of_ble_eq_true rfl⟩ ⟨rfl, rfl⟩ hl.1 rfl (rest := []) rfl (Nat.le_of_ble_eq_true rfl) dX5_countStanding_38 ⟨Nat.zero_le _, Nat.zero_le _⟩ (fun H locs hP hS => ?_)
        refine W.eq (g2 := F0 m 41 ls [.int v4]) rfl ?_
        refine lv_if_eq (tgt := 47) hx hb dX5_countStanding_41 (by decide) (fun c5 => ?_) (fun c5 => ?_)
        · have hm := xift c5 hm
          exact kX5_countStanding_47 X V (fX5_countStanding_8 n) ih x1 x2 x3 x5 M0 _ _ _ hm hP hS (lv_sub hl [0, 1, 2, 3, 5] rfl)
        · have hm := xiff c5 hm
          refine lv_iinc (v := x3 + 1) (lv' := [(3, .int (x3 + 1)), (0, .ref (xa w 34)), (1, .int x1), (2, .int x2), (4, .int x4), (5, .int x5)]) hx hb dX5_countStanding_44 hl (k := 3) rfl rfl (by decide) rfl (fun ls hl => ?_)
          exact kX5_countStanding_47 X V (fX5_countStanding_8 n) ih x1 x2 (x3 + 1) x5 M0 _ _ _ hm hP hS (lv_sub hl [1, 2, 3, 0, 5] rfl)
def fX5_countStanding (x1 : Int32) (x2 : Int32) (M0 : xM) : Option (Int32) := fX5_countStanding_8 4096 x1 x2 0 0 1 M0
theorem fX5_countStanding_s (x1 : Int32) (x2 : Int32) (M0 : xM) : fX5_countStanding x1 x2 M0 = (fX5_countStanding_8 4096 x1 x2 0 0 1 M0) := rfl
set_option maxHeartbeats 4000000 in
set_option maxRecDepth 100000 in
theorem qX5_countStanding (l : Launch) (w : xT) (x1 : Int32) (x2 : Int32) (M0 : xM) (V : Int32) (hm : fX5_countStanding x1 x2 M0 = some V) : xC l yX5_countStanding (Cond.code yX5_countStanding cX5_countStanding 6 (some .int)) { frames := 3, cells := 0, slots := 0, locals := 69 } w [.ref (xa w 34), .int x1, .int x2] M0 (some (.int V)) M0 := by
  refine xC.of (by decide) (Nat.le_of_ble_eq_true rfl) ?_
  intro p e s m args below meth c ls X hP hS hl
  have hl : lv_has ls 6 [(0, .ref (xa w 34)), (1, .int x1), (2, .int x2)] := hl
  have X : xX p s m args meth c cX5_countStanding 6 (some .int) RX5 w := X
  have hx := X.1
  have hb := X.2.1
  have hown := X.2.2.2.2.2.1
  have hts := X.2.2.2.2.2.2.1
  rw [fX5_countStanding_s] at hm
  refine lv_iconst (v := 0) hx hb dX5_countStanding_0 (by decide) ?_
  refine lv_istore_n (lv' := [(3, .int 0), (0, .ref (xa w 34)), (1, .int x1), (2, .int x2)]) hx hb dX5_countStanding_1 rfl hl (by decide) rfl (fun ls hl => ?_)
  refine lv_iconst (v := 0) hx hb dX5_countStanding_2 (by decide) ?_
  refine lv_istore (lv' := [(4, .int 0), (3, .int 0), (0, .ref (xa w 34)), (1, .int x1), (2, .int x2)]) hx hb dX5_countStanding_3 hl (by decide) rfl (fun ls hl => ?_)
  refine lv_iconst (v := 1) hx hb dX5_countStanding_5 (by decide) ?_
  refine lv_istore (lv' := [(5, .int 1), (4, .int 0), (3, .int 0), (0, .ref (xa w 34)), (1, .int x1), (2, .int x2)]) hx hb dX5_countStanding_6 hl (by decide) rfl (fun ls hl => ?_)
  exact kX5_countStanding_8 X V  4096 x1 x2 0 0 1 M0 _ _ _ hm hP hS (lv_sub hl [3, 4, 5, 2, 1, 0] rfl)
def fX8_repeats (x1 : Int32) (x2 : Int32) (M0 : xM) : Option (Int32) := if x1 < 1 then (some (-1)) else (if x2 < 1 then (some (-1)) else (if x2 ≤ 408 then ((fX5_countStanding x1 x2 M0).bind fun v4 => some v4) else (some (-1))))
theorem fX8_repeats_s (x1 : Int32) (x2 : Int32) (M0 : xM) : fX8_repeats x1 x2 M0 = (if x1 < 1 then (some (-1)) else (if x2 < 1 then (some (-1)) else (if x2 ≤ 408 then ((fX5_countStanding x1 x2 M0).bind fun v4 => some v4) else (some (-1))))) := rfl
set_option maxHeartbeats 4000000 in
set_option maxRecDepth 100000 in
theorem qX8_repeats (l : Launch) (w : xT) (x1 : Int32) (x2 : Int32) (M0 : xM) (V : Int32) (hm : fX8_repeats x1 x2 M0 = some V) : xC l yX8_repeats (Cond.code yX8_repeats cX8_repeats 3 (some .int)) { frames := 4, cells := 0, slots := 0, locals := 94 } w [.ref (xa w 0), .int x1, .int x2] M0 (some (.int V)) M0 := by
  refine xC.of (by decide) (Nat.le_of_ble_eq_true rfl) ?_
  intro p e s m args below meth c ls X hP hS hl
  have hl : lv_has ls 3 [(0, .ref (xa w 0)), (1, .int x1), (2, .int x2)] := hl
  have X : xX p s m args meth c cX8_repeats 3 (some .int) RX8 w := X
  have hx := X.1
  have hb := X.2.1
  have hown := X.2.2.2.2.2.1
  have hts := X.2.2.2.2.2.2.1
  rw [fX8_repeats_s] at hm
  refine lv_iload_n hx hb dX8_repeats_0 rfl (lv_at hl 1 rfl) ?_
  refine lv_iconst (v := 1) hx hb dX8_repeats_1 (by decide) ?_
  refine lv_icmp_lt (tgt := 17) hx hb dX8_repeats_2 (by decide) (fun c1 => ?_) (fun c1 => ?_)
  · have hm := xift c1 hm
    refine lv_iconst (v := (-1)) hx hb dX8_repeats_17 (by decide) ?_
    obtain rfl := Option.some.inj hm
    exact xiret X hP hS dX8_repeats_18
  · have hm := xiff c1 hm
    refine lv_iload_n hx hb dX8_repeats_5 rfl (lv_at hl 2 rfl) ?_
    refine lv_iconst (v := 1) hx hb dX8_repeats_6 (by decide) ?_
    refine lv_icmp_lt (tgt := 17) hx hb dX8_repeats_7 (by decide) (fun c2 => ?_) (fun c2 => ?_)
    · have hm := xift c2 hm
      refine lv_iconst (v := (-1)) hx hb dX8_repeats_17 (by decide) ?_
      obtain rfl := Option.some.inj hm
      exact xiret X hP hS dX8_repeats_18
    · have hm := xiff c2 hm
      refine lv_iload_n hx hb dX8_repeats_10 rfl (lv_at hl 2 rfl) ?_
      refine lv_sipush (v := 408) hx hb dX8_repeats_11 (by decide) ?_
      refine lv_icmp_le (tgt := 19) hx hb dX8_repeats_14 (by decide) (fun c3 => ?_) (fun c3 => ?_)
      · have hm := xift c3 hm
        refine lv_aload_n hx hb dX8_repeats_19 rfl (lv_at hl 0 rfl) ?_
        refine xget xcX8 X hP 0 5 xy0 (by decide) xf_X8_51 rfl dX8_repeats_20 ?_
        refine lv_iload_n hx hb dX8_repeats_23 rfl (lv_at hl 1 rfl) ?_
        refine lv_iload_n hx hb dX8_repeats_24 rfl (lv_at hl 2 rfl) ?_
        obtain ⟨v4, hg, hm⟩ := xbnd hm
        refine xcallV xm_X8_164 xt_X5_countStanding X hP hS (qX5_countStanding l w x1 x2 M0 v4 hg) xy34 rfl ⟨Nat.le_of_ble_eq_true rfl, Nat.le_of_ble_eq_true rfl⟩ ⟨rfl, rfl⟩ hl.1 rfl (rest := []) rfl (Nat.le_of_ble_eq_true rfl) dX8_repeats_25 ⟨Nat.zero_le _, Nat.zero_le _⟩ (fun H locs hP hS => ?_)
        refine W.eq (g2 := F0 m 28 ls [.int v4]) rfl ?_
        obtain rfl := Option.some.inj hm
        exact xiret X hP hS dX8_repeats_28
      · have hm := xiff c3 hm
        refine lv_iconst (v := (-1)) hx hb dX8_repeats_17 (by decide) ?_
        obtain rfl := Option.some.inj hm
        exact xiret X hP hS dX8_repeats_18
def fX9_repeats_104 (k27 : Int32 → Int32 → Int32 → Int32 → Int32 → xM → Option (Int32)) (x1 : Int32) (x2 : Int32) (x4 : Int32) (x5 : Int32) (s0 : Int32) (s1 : Int32) (M0 : xM) : Option (Int32) := k27 x1 x2 (s0 + s1) x4 (x5 + 1) M0
theorem fX9_repeats_104_s (k27 : Int32 → Int32 → Int32 → Int32 → Int32 → xM → Option (Int32)) (x1 : Int32) (x2 : Int32) (x4 : Int32) (x5 : Int32) (s0 : Int32) (s1 : Int32) (M0 : xM) : fX9_repeats_104 k27 x1 x2 x4 x5 s0 s1 M0 = (k27 x1 x2 (s0 + s1) x4 (x5 + 1) M0) := rfl
set_option maxHeartbeats 4000000 in
set_option maxRecDepth 100000 in
theorem kX9_repeats_104 {p : Program} {l : Launch} {e : Env} {s : State} {m : MethodId} {args : Array Value} {below : List Frame} {meth : Method} {c : Code} {w : xT} (X : xX p s m args meth c cX9_repeats 7 (some .int) RX9 w) (V : Int32) (k27 : Int32 → Int32 → Int32 → Int32 → Int32 → xM → Option (Int32)) (hk27 : ∀ (x1 : Int32) (x2 : Int32) (x3 : Int32) (x4 : Int32) (x5 : Int32) (M : xM) (H : Heap) (locs : List Loc) (ls : Array Slot), k27 x1 x2 x3 x4 x5 M = some V → xP w M H → xS w s H locs → lv_has ls 7 [(0, .ref (xa w 37)), (1, .int x1), (2, .int x2), (3, .int x3), (4, .int x4), (5, .int x5)] → W p l e { frames := 2, cells := 0, slots := 0, locals := 43 } s m args below meth c H locs 0 0 (xQ w (some (.int V)) M below args s) (F0 m 27 ls [])) : ∀ (x1 : Int32) (x2 : Int32) (x4 : Int32) (x5 : Int32) (s0 : Int32) (s1 : Int32) (M0 : xM) (H : Heap) (locs : List Loc) (ls : Array Slot), fX9_repeats_104 k27 x1 x2 x4 x5 s0 s1 M0 = some V → xP w M0 H → xS w s H locs → lv_has ls 7 [(0, .ref (xa w 37)), (1, .int x1), (2, .int x2), (4, .int x4), (5, .int x5)] → W p l e { frames := 2, cells := 0, slots := 0, locals := 43 } s m args below meth c H locs 0 0 (xQ w (some (.int V)) M0 below args s) (F0 m 104 ls [.int s1, .int s0]) := by
  have hx := X.1
  have hb := X.2.1
  have hown := X.2.2.2.2.2.1
  have hts := X.2.2.2.2.2.2.1
  intro x1 x2 x4 x5 s0 s1 M0 H locs ls hm hP hS hl
  rw [fX9_repeats_104_s] at hm
  refine lv_iadd hx hb dX9_repeats_104 ?_
  refine lv_istore_n (lv' := [(3, .int (s0 + s1)), (0, .ref (xa w 37)), (1, .int x1), (2, .int x2), (4, .int x4), (5, .int x5)]) hx hb dX9_repeats_105 rfl hl (by decide) rfl (fun ls hl => ?_)
  refine lv_iinc (v := x5 + 1) (lv' := [(5, .int (x5 + 1)), (3, .int (s0 + s1)), (0, .ref (xa w 37)), (1, .int x1), (2, .int x2), (4, .int x4)]) hx hb dX9_repeats_106 hl (k := 5) rfl rfl (by decide) rfl (fun ls hl => ?_)
  refine lv_goto (tgt := 27) hx hb dX9_repeats_109 (by decide) ?_
  exact hk27 x1 x2 (s0 + s1) x4 (x5 + 1) M0 _ _ _ hm hP hS (lv_sub hl [2, 3, 4, 1, 5, 0] rfl)
def fX9_repeats_90 (k27 : Int32 → Int32 → Int32 → Int32 → Int32 → xM → Option (Int32)) (x1 : Int32) (x2 : Int32) (x3 : Int32) (x5 : Int32) (s0 : Int32) (M0 : xM) : Option (Int32) := if s0 = x2 then (fX9_repeats_104 k27 x1 x2 s0 x5 x3 1 M0) else (fX9_repeats_104 k27 x1 x2 s0 x5 x3 0 M0)
theorem fX9_repeats_90_s (k27 : Int32 → Int32 → Int32 → Int32 → Int32 → xM → Option (Int32)) (x1 : Int32) (x2 : Int32) (x3 : Int32) (x5 : Int32) (s0 : Int32) (M0 : xM) : fX9_repeats_90 k27 x1 x2 x3 x5 s0 M0 = (if s0 = x2 then (fX9_repeats_104 k27 x1 x2 s0 x5 x3 1 M0) else (fX9_repeats_104 k27 x1 x2 s0 x5 x3 0 M0)) := rfl
set_option maxHeartbeats 4000000 in
set_option maxRecDepth 100000 in
theorem kX9_repeats_90 {p : Program} {l : Launch} {e : Env} {s : State} {m : MethodId} {args : Array Value} {below : List Frame} {meth : Method} {c : Code} {w : xT} (X : xX p s m args meth c cX9_repeats 7 (some .int) RX9 w) (V : Int32) (k27 : Int32 → Int32 → Int32 → Int32 → Int32 → xM → Option (Int32)) (hk27 : ∀ (x1 : Int32) (x2 : Int32) (x3 : Int32) (x4 : Int32) (x5 : Int32) (M : xM) (H : Heap) (locs : List Loc) (ls : Array Slot), k27 x1 x2 x3 x4 x5 M = some V → xP w M H → xS w s H locs → lv_has ls 7 [(0, .ref (xa w 37)), (1, .int x1), (2, .int x2), (3, .int x3), (4, .int x4), (5, .int x5)] → W p l e { frames := 2, cells := 0, slots := 0, locals := 43 } s m args below meth c H locs 0 0 (xQ w (some (.int V)) M below args s) (F0 m 27 ls [])) : ∀ (x1 : Int32) (x2 : Int32) (x3 : Int32) (x5 : Int32) (s0 : Int32) (M0 : xM) (H : Heap) (locs : List Loc) (ls : Array Slot), fX9_repeats_90 k27 x1 x2 x3 x5 s0 M0 = some V → xP w M0 H → xS w s H locs → lv_has ls 7 [(0, .ref (xa w 37)), (1, .int x1), (2, .int x2), (3, .int x3), (5, .int x5)] → W p l e { frames := 2, cells := 0, slots := 0, locals := 43 } s m args below meth c H locs 0 0 (xQ w (some (.int V)) M0 below args s) (F0 m 90 ls [.int s0]) := by
  have hx := X.1
  have hb := X.2.1
  have hown := X.2.2.2.2.2.1
  have hts := X.2.2.2.2.2.2.1
  intro x1 x2 x3 x5 s0 M0 H locs ls hm hP hS hl
  rw [fX9_repeats_90_s] at hm
  refine lv_istore (lv' := [(4, .int s0), (0, .ref (xa w 37)), (1, .int x1), (2, .int x2), (3, .int x3), (5, .int x5)]) hx hb dX9_repeats_90 hl (by decide) rfl (fun ls hl => ?_)
  refine lv_iload_n hx hb dX9_repeats_92 rfl (lv_at hl 4 rfl) ?_
  refine lv_iload hx hb dX9_repeats_93 (lv_at hl 0 rfl) ?_
  refine lv_iload_n hx hb dX9_repeats_95 rfl (lv_at hl 3 rfl) ?_
  refine lv_icmp_ne (tgt := 103) hx hb dX9_repeats_96 (by decide) (fun c1 => ?_) (fun c1 => ?_)
  · have hm := xiff c1 hm
    refine lv_iconst (v := 0) hx hb dX9_repeats_103 (by decide) ?_
    exact kX9_repeats_104 X V k27 hk27 x1 x2 s0 x5 x3 0 M0 _ _ _ hm hP hS (lv_sub hl [1, 2, 3, 0, 5] rfl)
  · have hm := xift c1 hm
    refine lv_iconst (v := 1) hx hb dX9_repeats_99 (by decide) ?_
    refine lv_goto (tgt := 104) hx hb dX9_repeats_100 (by decide) ?_
    exact kX9_repeats_104 X V k27 hk27 x1 x2 s0 x5 x3 1 M0 _ _ _ hm hP hS (lv_sub hl [1, 2, 3, 0, 5] rfl)
def fX9_repeats_56 (k27 : Int32 → Int32 → Int32 → Int32 → Int32 → xM → Option (Int32)) (x1 : Int32) (x2 : Int32) (x3 : Int32) (x4 : Int32) (x5 : Int32) (s0 : Int32) (M0 : xM) : Option (Int32) := if xin x5 408 then (fX9_toEnd (M0 44 x5.toNatClampNeg) M0).bind fun v3 => if x1 ≤ v3 then (if s0 = 0 then (fX9_repeats_90 k27 x1 x2 x3 x5 1 M0) else (fX9_repeats_90 k27 x1 x2 x3 x5 (x4 + 1) M0)) else (fX9_repeats_90 k27 x1 x2 x3 x5 0 M0) else none
theorem fX9_repeats_56_s (k27 : Int32 → Int32 → Int32 → Int32 → Int32 → xM → Option (Int32)) (x1 : Int32) (x2 : Int32) (x3 : Int32) (x4 : Int32) (x5 : Int32) (s0 : Int32) (M0 : xM) : fX9_repeats_56 k27 x1 x2 x3 x4 x5 s0 M0 = (if xin x5 408 then (fX9_toEnd (M0 44 x5.toNatClampNeg) M0).bind fun v3 => if x1 ≤ v3 then (if s0 = 0 then (fX9_repeats_90 k27 x1 x2 x3 x5 1 M0) else (fX9_repeats_90 k27 x1 x2 x3 x5 (x4 + 1) M0)) else (fX9_repeats_90 k27 x1 x2 x3 x5 0 M0) else none) := rfl
set_option maxHeartbeats 4000000 in
set_option maxRecDepth 100000 in
theorem kX9_repeats_56 {p : Program} {l : Launch} {e : Env} {s : State} {m : MethodId} {args : Array Value} {below : List Frame} {meth : Method} {c : Code} {w : xT} (X : xX p s m args meth c cX9_repeats 7 (some .int) RX9 w) (V : Int32) (k27 : Int32 → Int32 → Int32 → Int32 → Int32 → xM → Option (Int32)) (hk27 : ∀ (x1 : Int32) (x2 : Int32) (x3 : Int32) (x4 : Int32) (x5 : Int32) (M : xM) (H : Heap) (locs : List Loc) (ls : Array Slot), k27 x1 x2 x3 x4 x5 M = some V → xP w M H → xS w s H locs → lv_has ls 7 [(0, .ref (xa w 37)), (1, .int x1), (2, .int x2), (3, .int x3), (4, .int x4), (5, .int x5)] → W p l e { frames := 2, cells := 0, slots := 0, locals := 43 } s m args below meth c H locs 0 0 (xQ w (some (.int V)) M below args s) (F0 m 27 ls [])) : ∀ (x1 : Int32) (x2 : Int32) (x3 : Int32) (x4 : Int32) (x5 : Int32) (s0 : Int32) (M0 : xM) (H : Heap) (locs : List Loc) (ls : Array Slot), fX9_repeats_56 k27 x1 x2 x3 x4 x5 s0 M0 = some V → xP w M0 H → xS w s H locs → lv_has ls 7 [(0, .ref (xa w 37)), (1, .int x1), (2, .int x2), (3, .int x3), (4, .int x4), (5, .int x5)] → W p l e { frames := 2, cells := 0, slots := 0, locals := 43 } s m args below meth c H locs 0 0 (xQ w (some (.int V)) M0 below args s) (F0 m 56 ls [.int s0]) := by
  have hx := X.1
  have hb := X.2.1
  have hown := X.2.2.2.2.2.1
  have hts := X.2.2.2.2.2.2.1
  intro x1 x2 x3 x4 x5 s0 M0 H locs ls hm hP hS hl
  rw [fX9_repeats_56_s] at hm
  refine lv_istore (lv' := [(6, .int s0), (0, .ref (xa w 37)), (1, .int x1), (2, .int x2), (3, .int x3), (4, .int x4), (5, .int x5)]) hx hb dX9_repeats_56 hl (by decide) rfl (fun ls hl => ?_)
  refine lv_aload_n hx hb dX9_repeats_58 rfl (lv_at hl 1 rfl) ?_
  refine lv_aload_n hx hb dX9_repeats_59 rfl (lv_at hl 1 rfl) ?_
  refine xget xcX9 X hP 37 8 xy37 (by decide) xf_X9_29 rfl dX9_repeats_60 ?_
  refine lv_iload hx hb dX9_repeats_63 (lv_at hl 6 rfl) ?_
  obtain ⟨hi2, hm⟩ := xifn hm
  refine xiald X hP 44 xy44 hi2 dX9_repeats_65 ?_
  obtain ⟨v3, hg, hm⟩ := xbnd hm
  refine xcallV xm_X9_94 xt_X9_toEnd X hP hS (qX9_toEnd l w (M0 44 x5.toNatClampNeg) M0 v3 hg) xy37 rfl ⟨Nat.le_of_ble_eq_true rfl, Nat.le_of_ble_eq_true rfl⟩ ⟨rfl, rfl⟩ hl.1 rfl (rest := []) rfl (Nat.le_of_ble_eq_true rfl) dX9_repeats_66 ⟨Nat.zero_le _, Nat.zero_le _⟩ (fun H locs hP hS => ?_)
  refine W.eq (g2 := F0 m 69 ls [.int v3]) rfl ?_
  refine lv_iload_n hx hb dX9_repeats_69 rfl (lv_at hl 2 rfl) ?_
  refine lv_icmp_ge (tgt := 77) hx hb dX9_repeats_70 (by decide) (fun c4 => ?_) (fun c4 => ?_)
  · have hm := xift c4 hm
    refine lv_iload hx hb dX9_repeats_77 (lv_at hl 0 rfl) ?_
    refine lv_if_eq (tgt := 89) hx hb dX9_repeats_79 (by decide) (fun c5 => ?_) (fun c5 => ?_)
    · have hm := xift c5 hm
      refine lv_iconst (v := 1) hx hb dX9_repeats_89 (by decide) ?_
      exact kX9_repeats_90 X V k27 hk27 x1 x2 x3 x5 1 M0 _ _ _ hm hP hS (lv_sub hl [1, 2, 3, 4, 6] rfl)
    · have hm := xiff c5 hm
      refine lv_iload hx hb dX9_repeats_82 (lv_at hl 5 rfl) ?_
      refine lv_iconst (v := 1) hx hb dX9_repeats_84 (by decide) ?_
      refine lv_iadd hx hb dX9_repeats_85 ?_
      refine lv_goto (tgt := 90) hx hb dX9_repeats_86 (by decide) ?_
      exact kX9_repeats_90 X V k27 hk27 x1 x2 x3 x5 (x4 + 1) M0 _ _ _ hm hP hS (lv_sub hl [1, 2, 3, 4, 6] rfl)
  · have hm := xiff c4 hm
    refine lv_iconst (v := 0) hx hb dX9_repeats_73 (by decide) ?_
    refine lv_goto (tgt := 90) hx hb dX9_repeats_74 (by decide) ?_
    exact kX9_repeats_90 X V k27 hk27 x1 x2 x3 x5 0 M0 _ _ _ hm hP hS (lv_sub hl [1, 2, 3, 4, 6] rfl)
def fX9_repeats_55 (k27 : Int32 → Int32 → Int32 → Int32 → Int32 → xM → Option (Int32)) (x1 : Int32) (x2 : Int32) (x3 : Int32) (x4 : Int32) (x5 : Int32) (M0 : xM) : Option (Int32) := fX9_repeats_56 k27 x1 x2 x3 x4 x5 0 M0
theorem fX9_repeats_55_s (k27 : Int32 → Int32 → Int32 → Int32 → Int32 → xM → Option (Int32)) (x1 : Int32) (x2 : Int32) (x3 : Int32) (x4 : Int32) (x5 : Int32) (M0 : xM) : fX9_repeats_55 k27 x1 x2 x3 x4 x5 M0 = (fX9_repeats_56 k27 x1 x2 x3 x4 x5 0 M0) := rfl
set_option maxHeartbeats 4000000 in
set_option maxRecDepth 100000 in
theorem kX9_repeats_55 {p : Program} {l : Launch} {e : Env} {s : State} {m : MethodId} {args : Array Value} {below : List Frame} {meth : Method} {c : Code} {w : xT} (X : xX p s m args meth c cX9_repeats 7 (some .int) RX9 w) (V : Int32) (k27 : Int32 → Int32 → Int32 → Int32 → Int32 → xM → Option (Int32)) (hk27 : ∀ (x1 : Int32) (x2 : Int32) (x3 : Int32) (x4 : Int32) (x5 : Int32) (M : xM) (H : Heap) (locs : List Loc) (ls : Array Slot), k27 x1 x2 x3 x4 x5 M = some V → xP w M H → xS w s H locs → lv_has ls 7 [(0, .ref (xa w 37)), (1, .int x1), (2, .int x2), (3, .int x3), (4, .int x4), (5, .int x5)] → W p l e { frames := 2, cells := 0, slots := 0, locals := 43 } s m args below meth c H locs 0 0 (xQ w (some (.int V)) M below args s) (F0 m 27 ls [])) : ∀ (x1 : Int32) (x2 : Int32) (x3 : Int32) (x4 : Int32) (x5 : Int32) (M0 : xM) (H : Heap) (locs : List Loc) (ls : Array Slot), fX9_repeats_55 k27 x1 x2 x3 x4 x5 M0 = some V → xP w M0 H → xS w s H locs → lv_has ls 7 [(0, .ref (xa w 37)), (1, .int x1), (2, .int x2), (3, .int x3), (4, .int x4), (5, .int x5)] → W p l e { frames := 2, cells := 0, slots := 0, locals := 43 } s m args below meth c H locs 0 0 (xQ w (some (.int V)) M0 below args s) (F0 m 55 ls []) := by
  have hx := X.1
  have hb := X.2.1
  have hown := X.2.2.2.2.2.1
  have hts := X.2.2.2.2.2.2.1
  intro x1 x2 x3 x4 x5 M0 H locs ls hm hP hS hl
  rw [fX9_repeats_55_s] at hm
  refine lv_iconst (v := 0) hx hb dX9_repeats_55 (by decide) ?_
  exact kX9_repeats_56 X V k27 hk27 x1 x2 x3 x4 x5 0 M0 _ _ _ hm hP hS (lv_sub hl [0, 1, 2, 3, 4, 5] rfl)
def fX9_repeats_27  : Nat → Int32 → Int32 → Int32 → Int32 → Int32 → xM → Option (Int32)
  | 0 => fun _ _ _ _ _ _ => none
  | n + 1 => fun x1 x2 x3 x4 x5 M0 => if (M0 37 6) ≤ x5 then (some x3) else (if x4 ≤ 0 then (fX9_repeats_55 (fX9_repeats_27 n) x1 x2 x3 x4 x5 M0) else ((fX9_beside0 x5 M0).bind fun v8 => if v8 < x1 then (fX9_repeats_55 (fX9_repeats_27 n) x1 x2 x3 x4 x5 M0) else (fX9_repeats_56 (fX9_repeats_27 n) x1 x2 x3 x4 x5 1 M0)))
theorem fX9_repeats_27_s  (n : Nat) (x1 : Int32) (x2 : Int32) (x3 : Int32) (x4 : Int32) (x5 : Int32) (M0 : xM) : fX9_repeats_27  (n + 1) x1 x2 x3 x4 x5 M0 = (if (M0 37 6) ≤ x5 then (some x3) else (if x4 ≤ 0 then (fX9_repeats_55 (fX9_repeats_27 n) x1 x2 x3 x4 x5 M0) else ((fX9_beside0 x5 M0).bind fun v8 => if v8 < x1 then (fX9_repeats_55 (fX9_repeats_27 n) x1 x2 x3 x4 x5 M0) else (fX9_repeats_56 (fX9_repeats_27 n) x1 x2 x3 x4 x5 1 M0)))) := rfl
set_option maxHeartbeats 4000000 in
set_option maxRecDepth 100000 in
theorem kX9_repeats_27 {p : Program} {l : Launch} {e : Env} {s : State} {m : MethodId} {args : Array Value} {below : List Frame} {meth : Method} {c : Code} {w : xT} (X : xX p s m args meth c cX9_repeats 7 (some .int) RX9 w) (V : Int32)  : ∀ (n : Nat) (x1 : Int32) (x2 : Int32) (x3 : Int32) (x4 : Int32) (x5 : Int32) (M0 : xM) (H : Heap) (locs : List Loc) (ls : Array Slot), fX9_repeats_27  n x1 x2 x3 x4 x5 M0 = some V → xP w M0 H → xS w s H locs → lv_has ls 7 [(0, .ref (xa w 37)), (1, .int x1), (2, .int x2), (3, .int x3), (4, .int x4), (5, .int x5)] → W p l e { frames := 2, cells := 0, slots := 0, locals := 43 } s m args below meth c H locs 0 0 (xQ w (some (.int V)) M0 below args s) (F0 m 27 ls []) := by
  have hx := X.1
  have hb := X.2.1
  have hown := X.2.2.2.2.2.1
  have hts := X.2.2.2.2.2.2.1
  intro n
  induction n with
  | zero => intro x1 x2 x3 x4 x5 M0 H locs ls hm hP hS hl; exact xnon hm
  | succ n ih =>
    intro x1 x2 x3 x4 x5 M0 H locs ls hm hP hS hl
    rw [fX9_repeats_27_s] at hm
    refine lv_iload hx hb dX9_repeats_27 (lv_at hl 5 rfl) ?_
    refine lv_aload_n hx hb dX9_repeats_29 rfl (lv_at hl 0 rfl) ?_
    refine xgeti xcX9 X hP 37 6 xy37 (by decide) xf_X9_48 rfl dX9_repeats_30 ?_
    refine lv_icmp_ge (tgt := 112) hx hb dX9_repeats_33 (by decide) (fun c6 => ?_) (fun c6 => ?_)
    · have hm := xift c6 hm
      refine lv_iload_n hx hb dX9_repeats_112 rfl (lv_at hl 3 rfl) ?_
      obtain rfl := Option.some.inj hm
      exact xiret X hP hS dX9_repeats_113
    · have hm := xiff c6 hm
      refine lv_iload hx hb dX9_repeats_36 (lv_at hl 4 rfl) ?_
      refine lv_if_le (tgt := 55) hx hb dX9_repeats_38 (by decide) (fun c7 => ?_) (fun c7 => ?_)
      · have hm := xift c7 hm
        exact kX9_repeats_55 X V (fX9_repeats_27 n) ih x1 x2 x3 x4 x5 M0 _ _ _ hm hP hS (lv_sub hl [0, 1, 2, 3, 4, 5] rfl)
      · have hm := xiff c7 hm
        refine lv_aload_n hx hb dX9_repeats_41 rfl (lv_at hl 0 rfl) ?_
        refine lv_iload hx hb dX9_repeats_42 (lv_at hl 5 rfl) ?_
        obtain ⟨v8, hg, hm⟩ := xbnd hm
        refine xcallV xm_X9_81 xt_X9_beside0 X hP hS (qX9_beside0 l w x5 M0 v8 hg) xy37 rfl ⟨Nat.le_of_ble_eq_true rfl, Nat.le_of_ble_eq_true rfl⟩ ⟨rfl, rfl⟩ hl.1 rfl (rest := []) rfl (Nat.le_of_ble_eq_true rfl) dX9_repeats_44 ⟨Nat.zero_le _, Nat.zero_le _⟩ (fun H locs hP hS => ?_)
        refine W.eq (g2 := F0 m 47 ls [.int v8]) rfl ?_
        refine lv_iload_n hx hb dX9_repeats_47 rfl (lv_at hl 1 rfl) ?_
        refine lv_icmp_lt (tgt := 55) hx hb dX9_repeats_48 (by decide) (fun c9 => ?_) (fun c9 => ?_)
        · have hm := xift c9 hm
          exact kX9_repeats_55 X V (fX9_repeats_27 n) ih x1 x2 x3 x4 x5 M0 _ _ _ hm hP hS (lv_sub hl [0, 1, 2, 3, 4, 5] rfl)
        · have hm := xiff c9 hm
          refine lv_iconst (v := 1) hx hb dX9_repeats_51 (by decide) ?_
          refine lv_goto (tgt := 56) hx hb dX9_repeats_52 (by decide) ?_
          exact kX9_repeats_56 X V (fX9_repeats_27 n) ih x1 x2 x3 x4 x5 1 M0 _ _ _ hm hP hS (lv_sub hl [0, 1, 2, 3, 4, 5] rfl)
def fX9_repeats (x1 : Int32) (x2 : Int32) (M0 : xM) : Option (Int32) := if x1 < 1 then (some (-1)) else (if x2 < 1 then (some (-1)) else (if x2 ≤ 408 then (fX9_repeats_27 4096 x1 x2 0 0 0 M0) else (some (-1))))
theorem fX9_repeats_s (x1 : Int32) (x2 : Int32) (M0 : xM) : fX9_repeats x1 x2 M0 = (if x1 < 1 then (some (-1)) else (if x2 < 1 then (some (-1)) else (if x2 ≤ 408 then (fX9_repeats_27 4096 x1 x2 0 0 0 M0) else (some (-1))))) := rfl
set_option maxHeartbeats 4000000 in
set_option maxRecDepth 100000 in
theorem qX9_repeats (l : Launch) (w : xT) (x1 : Int32) (x2 : Int32) (M0 : xM) (V : Int32) (hm : fX9_repeats x1 x2 M0 = some V) : xC l yX9_repeats (Cond.code yX9_repeats cX9_repeats 7 (some .int)) { frames := 2, cells := 0, slots := 0, locals := 43 } w [.ref (xa w 37), .int x1, .int x2] M0 (some (.int V)) M0 := by
  refine xC.of (by decide) (Nat.le_of_ble_eq_true rfl) ?_
  intro p e s m args below meth c ls X hP hS hl
  have hl : lv_has ls 7 [(0, .ref (xa w 37)), (1, .int x1), (2, .int x2)] := hl
  have X : xX p s m args meth c cX9_repeats 7 (some .int) RX9 w := X
  have hx := X.1
  have hb := X.2.1
  have hown := X.2.2.2.2.2.1
  have hts := X.2.2.2.2.2.2.1
  rw [fX9_repeats_s] at hm
  refine lv_iload_n hx hb dX9_repeats_0 rfl (lv_at hl 1 rfl) ?_
  refine lv_iconst (v := 1) hx hb dX9_repeats_1 (by decide) ?_
  refine lv_icmp_lt (tgt := 17) hx hb dX9_repeats_2 (by decide) (fun c10 => ?_) (fun c10 => ?_)
  · have hm := xift c10 hm
    refine lv_iconst (v := (-1)) hx hb dX9_repeats_17 (by decide) ?_
    obtain rfl := Option.some.inj hm
    exact xiret X hP hS dX9_repeats_18
  · have hm := xiff c10 hm
    refine lv_iload_n hx hb dX9_repeats_5 rfl (lv_at hl 2 rfl) ?_
    refine lv_iconst (v := 1) hx hb dX9_repeats_6 (by decide) ?_
    refine lv_icmp_lt (tgt := 17) hx hb dX9_repeats_7 (by decide) (fun c11 => ?_) (fun c11 => ?_)
    · have hm := xift c11 hm
      refine lv_iconst (v := (-1)) hx hb dX9_repeats_17 (by decide) ?_
      obtain rfl := Option.some.inj hm
      exact xiret X hP hS dX9_repeats_18
    · have hm := xiff c11 hm
      refine lv_iload_n hx hb dX9_repeats_10 rfl (lv_at hl 2 rfl) ?_
      refine lv_sipush (v := 408) hx hb dX9_repeats_11 (by decide) ?_
      refine lv_icmp_le (tgt := 19) hx hb dX9_repeats_14 (by decide) (fun c12 => ?_) (fun c12 => ?_)
      · have hm := xift c12 hm
        refine lv_iconst (v := 0) hx hb dX9_repeats_19 (by decide) ?_
        refine lv_istore_n (lv' := [(3, .int 0), (0, .ref (xa w 37)), (1, .int x1), (2, .int x2)]) hx hb dX9_repeats_20 rfl hl (by decide) rfl (fun ls hl => ?_)
        refine lv_iconst (v := 0) hx hb dX9_repeats_21 (by decide) ?_
        refine lv_istore (lv' := [(4, .int 0), (3, .int 0), (0, .ref (xa w 37)), (1, .int x1), (2, .int x2)]) hx hb dX9_repeats_22 hl (by decide) rfl (fun ls hl => ?_)
        refine lv_iconst (v := 0) hx hb dX9_repeats_24 (by decide) ?_
        refine lv_istore (lv' := [(5, .int 0), (4, .int 0), (3, .int 0), (0, .ref (xa w 37)), (1, .int x1), (2, .int x2)]) hx hb dX9_repeats_25 hl (by decide) rfl (fun ls hl => ?_)
        exact kX9_repeats_27 X V  4096 x1 x2 0 0 0 M0 _ _ _ hm hP hS (lv_sub hl [3, 4, 5, 2, 1, 0] rfl)
      · have hm := xiff c12 hm
        refine lv_iconst (v := (-1)) hx hb dX9_repeats_17 (by decide) ?_
        obtain rfl := Option.some.inj hm
        exact xiret X hP hS dX9_repeats_18
def fX5_firstRunEnd_49 (k6 : Int32 → Int32 → Int32 → Int32 → Int32 → xM → Option (Int32)) (x1 : Int32) (x2 : Int32) (x3 : Int32) (x4 : Int32) (x5 : Int32) (M0 : xM) : Option (Int32) := k6 x1 x2 x3 x4 (x5 + 1) M0
theorem fX5_firstRunEnd_49_s (k6 : Int32 → Int32 → Int32 → Int32 → Int32 → xM → Option (Int32)) (x1 : Int32) (x2 : Int32) (x3 : Int32) (x4 : Int32) (x5 : Int32) (M0 : xM) : fX5_firstRunEnd_49 k6 x1 x2 x3 x4 x5 M0 = (k6 x1 x2 x3 x4 (x5 + 1) M0) := rfl
set_option maxHeartbeats 4000000 in
set_option maxRecDepth 100000 in
theorem kX5_firstRunEnd_49 {p : Program} {l : Launch} {e : Env} {s : State} {m : MethodId} {args : Array Value} {below : List Frame} {meth : Method} {c : Code} {w : xT} (X : xX p s m args meth c cX5_firstRunEnd 6 (some .int) RX5 w) (V : Int32) (k6 : Int32 → Int32 → Int32 → Int32 → Int32 → xM → Option (Int32)) (hk6 : ∀ (x1 : Int32) (x2 : Int32) (x3 : Int32) (x4 : Int32) (x5 : Int32) (M : xM) (H : Heap) (locs : List Loc) (ls : Array Slot), k6 x1 x2 x3 x4 x5 M = some V → xP w M H → xS w s H locs → lv_has ls 6 [(0, .ref (xa w 34)), (1, .int x1), (2, .int x2), (3, .int x3), (4, .int x4), (5, .int x5)] → W p l e { frames := 3, cells := 0, slots := 0, locals := 69 } s m args below meth c H locs 0 0 (xQ w (some (.int V)) M below args s) (F0 m 6 ls [])) : ∀ (x1 : Int32) (x2 : Int32) (x3 : Int32) (x4 : Int32) (x5 : Int32) (M0 : xM) (H : Heap) (locs : List Loc) (ls : Array Slot), fX5_firstRunEnd_49 k6 x1 x2 x3 x4 x5 M0 = some V → xP w M0 H → xS w s H locs → lv_has ls 6 [(0, .ref (xa w 34)), (1, .int x1), (2, .int x2), (3, .int x3), (4, .int x4), (5, .int x5)] → W p l e { frames := 3, cells := 0, slots := 0, locals := 69 } s m args below meth c H locs 0 0 (xQ w (some (.int V)) M0 below args s) (F0 m 49 ls []) := by
  have hx := X.1
  have hb := X.2.1
  have hown := X.2.2.2.2.2.1
  have hts := X.2.2.2.2.2.2.1
  intro x1 x2 x3 x4 x5 M0 H locs ls hm hP hS hl
  rw [fX5_firstRunEnd_49_s] at hm
  refine lv_iinc (v := x5 + 1) (lv' := [(5, .int (x5 + 1)), (0, .ref (xa w 34)), (1, .int x1), (2, .int x2), (3, .int x3), (4, .int x4)]) hx hb dX5_firstRunEnd_49 hl (k := 5) rfl rfl (by decide) rfl (fun ls hl => ?_)
  refine lv_goto (tgt := 6) hx hb dX5_firstRunEnd_52 (by decide) ?_
  exact hk6 x1 x2 x3 x4 (x5 + 1) M0 _ _ _ hm hP hS (lv_sub hl [1, 2, 3, 4, 5, 0] rfl)
def fX5_firstRunEnd_6  : Nat → Int32 → Int32 → Int32 → Int32 → Int32 → xM → Option (Int32)
  | 0 => fun _ _ _ _ _ _ => none
  | n + 1 => fun x1 x2 x3 x4 x5 M0 => if (M0 4 4) < x5 then (some (-1)) else ((fX5_isRunEnd x5 x1 M0).bind fun v2 => if v2 = 0 then (fX5_firstRunEnd_49 (fX5_firstRunEnd_6 n) x1 x2 x3 x4 x5 M0) else ((fX5_isEnough x4 x5 x1 x2 x3 M0).bind fun v4 => if v4 = 0 then (fX5_firstRunEnd_49 (fX5_firstRunEnd_6 n) x1 x2 x3 x5 x5 M0) else (some x5)))
theorem fX5_firstRunEnd_6_s  (n : Nat) (x1 : Int32) (x2 : Int32) (x3 : Int32) (x4 : Int32) (x5 : Int32) (M0 : xM) : fX5_firstRunEnd_6  (n + 1) x1 x2 x3 x4 x5 M0 = (if (M0 4 4) < x5 then (some (-1)) else ((fX5_isRunEnd x5 x1 M0).bind fun v2 => if v2 = 0 then (fX5_firstRunEnd_49 (fX5_firstRunEnd_6 n) x1 x2 x3 x4 x5 M0) else ((fX5_isEnough x4 x5 x1 x2 x3 M0).bind fun v4 => if v4 = 0 then (fX5_firstRunEnd_49 (fX5_firstRunEnd_6 n) x1 x2 x3 x5 x5 M0) else (some x5)))) := rfl
set_option maxHeartbeats 4000000 in
set_option maxRecDepth 100000 in
theorem kX5_firstRunEnd_6 {p : Program} {l : Launch} {e : Env} {s : State} {m : MethodId} {args : Array Value} {below : List Frame} {meth : Method} {c : Code} {w : xT} (X : xX p s m args meth c cX5_firstRunEnd 6 (some .int) RX5 w) (V : Int32)  : ∀ (n : Nat) (x1 : Int32) (x2 : Int32) (x3 : Int32) (x4 : Int32) (x5 : Int32) (M0 : xM) (H : Heap) (locs : List Loc) (ls : Array Slot), fX5_firstRunEnd_6  n x1 x2 x3 x4 x5 M0 = some V → xP w M0 H → xS w s H locs → lv_has ls 6 [(0, .ref (xa w 34)), (1, .int x1), (2, .int x2), (3, .int x3), (4, .int x4), (5, .int x5)] → W p l e { frames := 3, cells := 0, slots := 0, locals := 69 } s m args below meth c H locs 0 0 (xQ w (some (.int V)) M0 below args s) (F0 m 6 ls []) := by
  have hx := X.1
  have hb := X.2.1
  have hown := X.2.2.2.2.2.1
  have hts := X.2.2.2.2.2.2.1
  intro n
  induction n with
  | zero => intro x1 x2 x3 x4 x5 M0 H locs ls hm hP hS hl; exact xnon hm
  | succ n ih =>
    intro x1 x2 x3 x4 x5 M0 H locs ls hm hP hS hl
    rw [fX5_firstRunEnd_6_s] at hm
    refine lv_iload hx hb dX5_firstRunEnd_6 (lv_at hl 5 rfl) ?_
    refine lv_aload_n hx hb dX5_firstRunEnd_8 rfl (lv_at hl 0 rfl) ?_
    refine xget xcX5 X hP 34 0 xy34 (by decide) xf_X5_9 rfl dX5_firstRunEnd_9 ?_
    refine xgeti xcX7 X hP 4 4 xy4 (by decide) xf_X5_19 rfl dX5_firstRunEnd_12 ?_
    refine lv_icmp_gt (tgt := 55) hx hb dX5_firstRunEnd_15 (by decide) (fun c1 => ?_) (fun c1 => ?_)
    · have hm := xift c1 hm
      refine lv_iconst (v := (-1)) hx hb dX5_firstRunEnd_55 (by decide) ?_
      obtain rfl := Option.some.inj hm
      exact xiret X hP hS dX5_firstRunEnd_56
    · have hm := xiff c1 hm
      refine lv_aload_n hx hb dX5_firstRunEnd_18 rfl (lv_at hl 0 rfl) ?_
      refine lv_iload hx hb dX5_firstRunEnd_19 (lv_at hl 5 rfl) ?_
      refine lv_iload_n hx hb dX5_firstRunEnd_21 rfl (lv_at hl 1 rfl) ?_
      obtain ⟨v2, hg, hm⟩ := xbnd hm
      refine xcallV xm_X5_38 xt_X5_isRunEnd X hP hS (qX5_isRunEnd l w x5 x1 M0 v2 hg) xy34 rfl ⟨Nat.le_of_ble_eq_true rfl, Nat.le_of_ble_eq_true rfl⟩ ⟨rfl, rfl⟩ hl.1 rfl (rest := []) rfl (Nat.le_of_ble_eq_true rfl) dX5_firstRunEnd_22 ⟨Nat.zero_le _, Nat.zero_le _⟩ (fun H locs hP hS => ?_)
      refine W.eq (g2 := F0 m 25 ls [.int v2]) rfl ?_
      refine lv_if_eq (tgt := 49) hx hb dX5_firstRunEnd_25 (by decide) (fun c3 => ?_) (fun c3 => ?_)
      · have hm := xift c3 hm
        exact kX5_firstRunEnd_49 X V (fX5_firstRunEnd_6 n) ih x1 x2 x3 x4 x5 M0 _ _ _ hm hP hS (lv_sub hl [0, 1, 2, 3, 4, 5] rfl)
      · have hm := xiff c3 hm
        refine lv_aload_n hx hb dX5_firstRunEnd_28 rfl (lv_at hl 0 rfl) ?_
        refine lv_iload hx hb dX5_firstRunEnd_29 (lv_at hl 4 rfl) ?_
        refine lv_iload hx hb dX5_firstRunEnd_31 (lv_at hl 5 rfl) ?_
        refine lv_iload_n hx hb dX5_firstRunEnd_33 rfl (lv_at hl 1 rfl) ?_
        refine lv_iload_n hx hb dX5_firstRunEnd_34 rfl (lv_at hl 2 rfl) ?_
        refine lv_iload_n hx hb dX5_firstRunEnd_35 rfl (lv_at hl 3 rfl) ?_
        obtain ⟨v4, hg, hm⟩ := xbnd hm
        refine xcallV xm_X5_42 xt_X5_isEnough X hP hS (qX5_isEnough l w x4 x5 x1 x2 x3 M0 v4 hg) xy34 rfl ⟨Nat.le_of_ble_eq_true rfl, Nat.le_of_ble_eq_true rfl⟩ ⟨rfl, rfl⟩ hl.1 rfl (rest := []) rfl (Nat.le_of_ble_eq_true rfl) dX5_firstRunEnd_36 ⟨Nat.zero_le _, Nat.zero_le _⟩ (fun H locs hP hS => ?_)
        refine W.eq (g2 := F0 m 39 ls [.int v4]) rfl ?_
        refine lv_if_eq (tgt := 45) hx hb dX5_firstRunEnd_39 (by decide) (fun c5 => ?_) (fun c5 => ?_)
        · have hm := xift c5 hm
          refine lv_iload hx hb dX5_firstRunEnd_45 (lv_at hl 5 rfl) ?_
          refine lv_istore (lv' := [(4, .int x5), (0, .ref (xa w 34)), (1, .int x1), (2, .int x2), (3, .int x3), (5, .int x5)]) hx hb dX5_firstRunEnd_47 hl (by decide) rfl (fun ls hl => ?_)
          exact kX5_firstRunEnd_49 X V (fX5_firstRunEnd_6 n) ih x1 x2 x3 x5 x5 M0 _ _ _ hm hP hS (lv_sub hl [1, 2, 3, 4, 0, 5] rfl)
        · have hm := xiff c5 hm
          refine lv_iload hx hb dX5_firstRunEnd_42 (lv_at hl 5 rfl) ?_
          obtain rfl := Option.some.inj hm
          exact xiret X hP hS dX5_firstRunEnd_44
def fX5_firstRunEnd (x1 : Int32) (x2 : Int32) (x3 : Int32) (M0 : xM) : Option (Int32) := fX5_firstRunEnd_6 4096 x1 x2 x3 0 1 M0
theorem fX5_firstRunEnd_s (x1 : Int32) (x2 : Int32) (x3 : Int32) (M0 : xM) : fX5_firstRunEnd x1 x2 x3 M0 = (fX5_firstRunEnd_6 4096 x1 x2 x3 0 1 M0) := rfl
set_option maxHeartbeats 4000000 in
set_option maxRecDepth 100000 in
theorem qX5_firstRunEnd (l : Launch) (w : xT) (x1 : Int32) (x2 : Int32) (x3 : Int32) (M0 : xM) (V : Int32) (hm : fX5_firstRunEnd x1 x2 x3 M0 = some V) : xC l yX5_firstRunEnd (Cond.code yX5_firstRunEnd cX5_firstRunEnd 6 (some .int)) { frames := 3, cells := 0, slots := 0, locals := 69 } w [.ref (xa w 34), .int x1, .int x2, .int x3] M0 (some (.int V)) M0 := by
  refine xC.of (by decide) (Nat.le_of_ble_eq_true rfl) ?_
  intro p e s m args below meth c ls X hP hS hl
  have hl : lv_has ls 6 [(0, .ref (xa w 34)), (1, .int x1), (2, .int x2), (3, .int x3)] := hl
  have X : xX p s m args meth c cX5_firstRunEnd 6 (some .int) RX5 w := X
  have hx := X.1
  have hb := X.2.1
  have hown := X.2.2.2.2.2.1
  have hts := X.2.2.2.2.2.2.1
  rw [fX5_firstRunEnd_s] at hm
  refine lv_iconst (v := 0) hx hb dX5_firstRunEnd_0 (by decide) ?_
  refine lv_istore (lv' := [(4, .int 0), (0, .ref (xa w 34)), (1, .int x1), (2, .int x2), (3, .int x3)]) hx hb dX5_firstRunEnd_1 hl (by decide) rfl (fun ls hl => ?_)
  refine lv_iconst (v := 1) hx hb dX5_firstRunEnd_3 (by decide) ?_
  refine lv_istore (lv' := [(5, .int 1), (4, .int 0), (0, .ref (xa w 34)), (1, .int x1), (2, .int x2), (3, .int x3)]) hx hb dX5_firstRunEnd_4 hl (by decide) rfl (fun ls hl => ?_)
  exact kX5_firstRunEnd_6 X V  4096 x1 x2 x3 0 1 M0 _ _ _ hm hP hS (lv_sub hl [2, 3, 4, 5, 1, 0] rfl)
