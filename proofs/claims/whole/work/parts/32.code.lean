def fX5_longestLength_51 (k11 : Int32 → Int32 → Int32 → Int32 → xM → Option (Int32)) (x1 : Int32) (x2 : Int32) (x3 : Int32) (x4 : Int32) (M0 : xM) : Option (Int32) := k11 x1 x2 x3 x4 M0
theorem fX5_longestLength_51_s (k11 : Int32 → Int32 → Int32 → Int32 → xM → Option (Int32)) (x1 : Int32) (x2 : Int32) (x3 : Int32) (x4 : Int32) (M0 : xM) : fX5_longestLength_51 k11 x1 x2 x3 x4 M0 = (k11 x1 x2 x3 x4 M0) := rfl
set_option maxHeartbeats 4000000 in
set_option maxRecDepth 100000 in
theorem kX5_longestLength_51 {p : Program} {l : Launch} {e : Env} {s : State} {m : MethodId} {args : Array Value} {below : List Frame} {meth : Method} {c : Code} {w : xT} (X : xX p s m args meth c cX5_longestLength 6 (some .int) RX5 w) (V : Int32) (k11 : Int32 → Int32 → Int32 → Int32 → xM → Option (Int32)) (hk11 : ∀ (x1 : Int32) (x2 : Int32) (x3 : Int32) (x4 : Int32) (M : xM) (H : Heap) (locs : List Loc) (ls : Array Slot), k11 x1 x2 x3 x4 M = some V → xP w M H → xS w s H locs → lv_has ls 6 [(0, .ref (xa w 34)), (1, .int x1), (2, .int x2), (3, .int x3), (4, .int x4)] → W p l e { frames := 4, cells := 0, slots := 0, locals := 94 } s m args below meth c H locs 0 0 (xQ w (some (.int V)) M below args s) (F0 m 11 ls [])) : ∀ (x1 : Int32) (x2 : Int32) (x3 : Int32) (x4 : Int32) (M0 : xM) (H : Heap) (locs : List Loc) (ls : Array Slot), fX5_longestLength_51 k11 x1 x2 x3 x4 M0 = some V → xP w M0 H → xS w s H locs → lv_has ls 6 [(0, .ref (xa w 34)), (1, .int x1), (2, .int x2), (3, .int x3), (4, .int x4)] → W p l e { frames := 4, cells := 0, slots := 0, locals := 94 } s m args below meth c H locs 0 0 (xQ w (some (.int V)) M0 below args s) (F0 m 51 ls []) := by
  have hx := X.1
  have hb := X.2.1
  have hown := X.2.2.2.2.2.1
  have hts := X.2.2.2.2.2.2.1
  intro x1 x2 x3 x4 M0 H locs ls hm hP hS hl
  rw [fX5_longestLength_51_s] at hm
  refine lv_goto (tgt := 11) hx hb dX5_longestLength_51 (by decide) ?_
  exact hk11 x1 x2 x3 x4 M0 _ _ _ hm hP hS (lv_sub hl [0, 1, 2, 3, 4] rfl)
def fX5_longestLength_11  : Nat → Int32 → Int32 → Int32 → Int32 → xM → Option (Int32)
  | 0 => fun _ _ _ _ _ => none
  | n + 1 => fun x1 x2 x3 x4 M0 => if x4 ≤ x3 then (some x3) else ((fX5_firstRunEnd (((x3 + x4) + 1) / 2) x1 x2 M0).bind fun v2 => if v2 = (-1) then (xlt ((((x3 + x4) + 1) / 2) - 1) fun y4 => fX5_longestLength_51 (fX5_longestLength_11 n) x1 x2 x3 y4 M0) else (fX5_longestLength_51 (fX5_longestLength_11 n) x1 x2 (((x3 + x4) + 1) / 2) x4 M0))
theorem fX5_longestLength_11_s  (n : Nat) (x1 : Int32) (x2 : Int32) (x3 : Int32) (x4 : Int32) (M0 : xM) : fX5_longestLength_11  (n + 1) x1 x2 x3 x4 M0 = (if x4 ≤ x3 then (some x3) else ((fX5_firstRunEnd (((x3 + x4) + 1) / 2) x1 x2 M0).bind fun v2 => if v2 = (-1) then (xlt ((((x3 + x4) + 1) / 2) - 1) fun y4 => fX5_longestLength_51 (fX5_longestLength_11 n) x1 x2 x3 y4 M0) else (fX5_longestLength_51 (fX5_longestLength_11 n) x1 x2 (((x3 + x4) + 1) / 2) x4 M0))) := rfl
set_option maxHeartbeats 4000000 in
set_option maxRecDepth 100000 in
theorem kX5_longestLength_11 {p : Program} {l : Launch} {e : Env} {s : State} {m : MethodId} {args : Array Value} {below : List Frame} {meth : Method} {c : Code} {w : xT} (X : xX p s m args meth c cX5_longestLength 6 (some .int) RX5 w) (V : Int32)  : ∀ (n : Nat) (x1 : Int32) (x2 : Int32) (x3 : Int32) (x4 : Int32) (M0 : xM) (H : Heap) (locs : List Loc) (ls : Array Slot), fX5_longestLength_11  n x1 x2 x3 x4 M0 = some V → xP w M0 H → xS w s H locs → lv_has ls 6 [(0, .ref (xa w 34)), (1, .int x1), (2, .int x2), (3, .int x3), (4, .int x4)] → W p l e { frames := 4, cells := 0, slots := 0, locals := 94 } s m args below meth c H locs 0 0 (xQ w (some (.int V)) M0 below args s) (F0 m 11 ls []) := by
  have hx := X.1
  have hb := X.2.1
  have hown := X.2.2.2.2.2.1
  have hts := X.2.2.2.2.2.2.1
  intro n
  induction n with
  | zero => intro x1 x2 x3 x4 M0 H locs ls hm hP hS hl; exact xnon hm
  | succ n ih =>
    intro x1 x2 x3 x4 M0 H locs ls hm hP hS hl
    rw [fX5_longestLength_11_s] at hm
    refine lv_iload_n hx hb dX5_longestLength_11 rfl (lv_at hl 3 rfl) ?_
    refine lv_iload hx hb dX5_longestLength_12 (lv_at hl 4 rfl) ?_
    refine lv_icmp_ge (tgt := 54) hx hb dX5_longestLength_14 (by decide) (fun c1 => ?_) (fun c1 => ?_)
    · have hm := xift c1 hm
      refine lv_iload_n hx hb dX5_longestLength_54 rfl (lv_at hl 3 rfl) ?_
      obtain rfl := Option.some.inj hm
      exact xiret X hP hS dX5_longestLength_55
    · have hm := xiff c1 hm
      refine lv_iload_n hx hb dX5_longestLength_17 rfl (lv_at hl 3 rfl) ?_
      refine lv_iload hx hb dX5_longestLength_18 (lv_at hl 4 rfl) ?_
      refine lv_iadd hx hb dX5_longestLength_20 ?_
      refine lv_iconst (v := 1) hx hb dX5_longestLength_21 (by decide) ?_
      refine lv_iadd hx hb dX5_longestLength_22 ?_
      refine lv_iconst (v := 2) hx hb dX5_longestLength_23 (by decide) ?_
      refine lv_idiv hx hb dX5_longestLength_24 (by decide) ?_
      refine lv_istore (lv' := [(5, .int (((x3 + x4) + 1) / 2)), (0, .ref (xa w 34)), (1, .int x1), (2, .int x2), (3, .int x3), (4, .int x4)]) hx hb dX5_longestLength_25 hl (by decide) rfl (fun ls hl => ?_)
      refine lv_aload_n hx hb dX5_longestLength_27 rfl (lv_at hl 1 rfl) ?_
      refine lv_iload hx hb dX5_longestLength_28 (lv_at hl 0 rfl) ?_
      refine lv_iload_n hx hb dX5_longestLength_30 rfl (lv_at hl 2 rfl) ?_
      refine lv_iload_n hx hb dX5_longestLength_31 rfl (lv_at hl 3 rfl) ?_
      obtain ⟨v2, hg, hm⟩ := xbnd hm
      refine xcallV xm_X5_50 xt_X5_firstRunEnd X hP hS (qX5_firstRunEnd l w (((x3 + x4) + 1) / 2) x1 x2 M0 v2 hg) xy34 rfl ⟨Nat.le_of_ble_eq_true rfl, Nat.le_of_ble_eq_true rfl⟩ ⟨rfl, rfl⟩ hl.1 rfl (rest := []) rfl (Nat.le_of_ble_eq_true rfl) dX5_longestLength_32 ⟨Nat.zero_le _, Nat.zero_le _⟩ (fun H locs hP hS => ?_)
      refine W.eq (g2 := F0 m 35 ls [.int v2]) rfl ?_
      refine lv_iconst (v := (-1)) hx hb dX5_longestLength_35 (by decide) ?_
      refine lv_icmp_eq (tgt := 45) hx hb dX5_longestLength_36 (by decide) (fun c3 => ?_) (fun c3 => ?_)
      · have hm := xift c3 hm
        refine lv_iload hx hb dX5_longestLength_45 (lv_at hl 0 rfl) ?_
        refine lv_iconst (v := 1) hx hb dX5_longestLength_47 (by decide) ?_
        refine lv_isub hx hb dX5_longestLength_48 ?_
        refine lv_topi (fun y4 ey4 => ?_)
        have hm := xltE hm ey4
        refine lv_istore (lv' := [(4, .int y4), (5, .int (((x3 + x4) + 1) / 2)), (0, .ref (xa w 34)), (1, .int x1), (2, .int x2), (3, .int x3)]) hx hb dX5_longestLength_49 hl (by decide) rfl (fun ls hl => ?_)
        exact kX5_longestLength_51 X V (fX5_longestLength_11 n) ih x1 x2 x3 y4 M0 _ _ _ hm hP hS (lv_sub hl [2, 3, 4, 5, 0] rfl)
      · have hm := xiff c3 hm
        refine lv_iload hx hb dX5_longestLength_39 (lv_at hl 0 rfl) ?_
        refine lv_istore_n (lv' := [(3, .int (((x3 + x4) + 1) / 2)), (5, .int (((x3 + x4) + 1) / 2)), (0, .ref (xa w 34)), (1, .int x1), (2, .int x2), (4, .int x4)]) hx hb dX5_longestLength_41 rfl hl (by decide) rfl (fun ls hl => ?_)
        refine lv_goto (tgt := 51) hx hb dX5_longestLength_42 (by decide) ?_
        exact kX5_longestLength_51 X V (fX5_longestLength_11 n) ih x1 x2 (((x3 + x4) + 1) / 2) x4 M0 _ _ _ hm hP hS (lv_sub hl [2, 3, 4, 0, 5] rfl)
def fX5_longestLength (x1 : Int32) (x2 : Int32) (M0 : xM) : Option (Int32) := fX5_longestLength_11 4096 x1 x2 0 (M0 4 4) M0
theorem fX5_longestLength_s (x1 : Int32) (x2 : Int32) (M0 : xM) : fX5_longestLength x1 x2 M0 = (fX5_longestLength_11 4096 x1 x2 0 (M0 4 4) M0) := rfl
set_option maxHeartbeats 4000000 in
set_option maxRecDepth 100000 in
theorem qX5_longestLength (l : Launch) (w : xT) (x1 : Int32) (x2 : Int32) (M0 : xM) (V : Int32) (hm : fX5_longestLength x1 x2 M0 = some V) : xC l yX5_longestLength (Cond.code yX5_longestLength cX5_longestLength 6 (some .int)) { frames := 4, cells := 0, slots := 0, locals := 94 } w [.ref (xa w 34), .int x1, .int x2] M0 (some (.int V)) M0 := by
  refine xC.of (by decide) (Nat.le_of_ble_eq_true rfl) ?_
  intro p e s m args below meth c ls X hP hS hl
  have hl : lv_has ls 6 [(0, .ref (xa w 34)), (1, .int x1), (2, .int x2)] := hl
  have X : xX p s m args meth c cX5_longestLength 6 (some .int) RX5 w := X
  have hx := X.1
  have hb := X.2.1
  have hown := X.2.2.2.2.2.1
  have hts := X.2.2.2.2.2.2.1
  rw [fX5_longestLength_s] at hm
  refine lv_iconst (v := 0) hx hb dX5_longestLength_0 (by decide) ?_
  refine lv_istore_n (lv' := [(3, .int 0), (0, .ref (xa w 34)), (1, .int x1), (2, .int x2)]) hx hb dX5_longestLength_1 rfl hl (by decide) rfl (fun ls hl => ?_)
  refine lv_aload_n hx hb dX5_longestLength_2 rfl (lv_at hl 1 rfl) ?_
  refine xget xcX5 X hP 34 0 xy34 (by decide) xf_X5_9 rfl dX5_longestLength_3 ?_
  refine xgeti xcX7 X hP 4 4 xy4 (by decide) xf_X5_19 rfl dX5_longestLength_6 ?_
  refine lv_istore (lv' := [(4, .int (M0 4 4)), (3, .int 0), (0, .ref (xa w 34)), (1, .int x1), (2, .int x2)]) hx hb dX5_longestLength_9 hl (by decide) rfl (fun ls hl => ?_)
  exact kX5_longestLength_11 X V  4096 x1 x2 0 (M0 4 4) M0 _ _ _ hm hP hS (lv_sub hl [2, 3, 4, 1, 0] rfl)
def fX5_runStart_4  : Nat → Int32 → Int32 → xM → Option (Int32)
  | 0 => fun _ _ _ => none
  | n + 1 => fun x2 x3 M0 => if x3 ≤ 0 then (some x3) else (if xin x3 408 then if (M0 12 x3.toNatClampNeg) < x2 then (some x3) else (fX5_runStart_4 n x2 (x3 + (-1)) M0) else none)
theorem fX5_runStart_4_s  (n : Nat) (x2 : Int32) (x3 : Int32) (M0 : xM) : fX5_runStart_4  (n + 1) x2 x3 M0 = (if x3 ≤ 0 then (some x3) else (if xin x3 408 then if (M0 12 x3.toNatClampNeg) < x2 then (some x3) else (fX5_runStart_4 n x2 (x3 + (-1)) M0) else none)) := rfl
set_option maxHeartbeats 4000000 in
set_option maxRecDepth 100000 in
theorem kX5_runStart_4 {p : Program} {l : Launch} {e : Env} {s : State} {m : MethodId} {args : Array Value} {below : List Frame} {meth : Method} {c : Code} {w : xT} (X : xX p s m args meth c cX5_runStart 4 (some .int) RX5 w) (V : Int32)  : ∀ (n : Nat) (x2 : Int32) (x3 : Int32) (M0 : xM) (H : Heap) (locs : List Loc) (ls : Array Slot), fX5_runStart_4  n x2 x3 M0 = some V → xP w M0 H → xS w s H locs → lv_has ls 4 [(0, .ref (xa w 34)), (2, .int x2), (3, .int x3)] → W p l e { frames := 0, cells := 0, slots := 0, locals := 0 } s m args below meth c H locs 0 0 (xQ w (some (.int V)) M0 below args s) (F0 m 4 ls []) := by
  have hx := X.1
  have hb := X.2.1
  have hown := X.2.2.2.2.2.1
  have hts := X.2.2.2.2.2.2.1
  intro n
  induction n with
  | zero => intro x2 x3 M0 H locs ls hm hP hS hl; exact xnon hm
  | succ n ih =>
    intro x2 x3 M0 H locs ls hm hP hS hl
    rw [fX5_runStart_4_s] at hm
    refine lv_iload_n hx hb dX5_runStart_4 rfl (lv_at hl 2 rfl) ?_
    refine lv_if_le (tgt := 27) hx hb dX5_runStart_5 (by decide) (fun c1 => ?_) (fun c1 => ?_)
    · have hm := xift c1 hm
      refine lv_iload_n hx hb dX5_runStart_27 rfl (lv_at hl 2 rfl) ?_
      obtain rfl := Option.some.inj hm
      exact xiret X hP hS dX5_runStart_28
    · have hm := xiff c1 hm
      refine lv_aload_n hx hb dX5_runStart_8 rfl (lv_at hl 0 rfl) ?_
      refine xget xcX5 X hP 34 1 xy34 (by decide) xf_X5_15 rfl dX5_runStart_9 ?_
      refine xget xcX3 X hP 9 2 xy9 (by decide) xf_X5_35 rfl dX5_runStart_12 ?_
      refine lv_iload_n hx hb dX5_runStart_15 rfl (lv_at hl 2 rfl) ?_
      obtain ⟨hi2, hm⟩ := xifn hm
      refine xiald X hP 12 xy12 hi2 dX5_runStart_16 ?_
      refine lv_iload_n hx hb dX5_runStart_17 rfl (lv_at hl 1 rfl) ?_
      refine lv_icmp_lt (tgt := 27) hx hb dX5_runStart_18 (by decide) (fun c3 => ?_) (fun c3 => ?_)
      · have hm := xift c3 hm
        refine lv_iload_n hx hb dX5_runStart_27 rfl (lv_at hl 2 rfl) ?_
        obtain rfl := Option.some.inj hm
        exact xiret X hP hS dX5_runStart_28
      · have hm := xiff c3 hm
        refine lv_iinc (v := x3 + (-1)) (lv' := [(3, .int (x3 + (-1))), (0, .ref (xa w 34)), (2, .int x2)]) hx hb dX5_runStart_21 hl (k := 2) rfl rfl (by decide) rfl (fun ls hl => ?_)
        refine lv_goto (tgt := 4) hx hb dX5_runStart_24 (by decide) ?_
        exact ih x2 (x3 + (-1)) M0 _ _ _ hm hP hS (lv_sub hl [1, 2, 0] rfl)
def fX5_runStart (x1 : Int32) (x2 : Int32) (M0 : xM) : Option (Int32) := fX5_runStart_4 4096 x2 (x1 - 1) M0
theorem fX5_runStart_s (x1 : Int32) (x2 : Int32) (M0 : xM) : fX5_runStart x1 x2 M0 = (fX5_runStart_4 4096 x2 (x1 - 1) M0) := rfl
set_option maxHeartbeats 4000000 in
set_option maxRecDepth 100000 in
theorem qX5_runStart (l : Launch) (w : xT) (x1 : Int32) (x2 : Int32) (M0 : xM) (V : Int32) (hm : fX5_runStart x1 x2 M0 = some V) : xC l yX5_runStart (Cond.code yX5_runStart cX5_runStart 4 (some .int)) { frames := 0, cells := 0, slots := 0, locals := 0 } w [.ref (xa w 34), .int x1, .int x2] M0 (some (.int V)) M0 := by
  refine xC.of (by decide) (Nat.le_of_ble_eq_true rfl) ?_
  intro p e s m args below meth c ls X hP hS hl
  have hl : lv_has ls 4 [(0, .ref (xa w 34)), (1, .int x1), (2, .int x2)] := hl
  have X : xX p s m args meth c cX5_runStart 4 (some .int) RX5 w := X
  have hx := X.1
  have hb := X.2.1
  have hown := X.2.2.2.2.2.1
  have hts := X.2.2.2.2.2.2.1
  rw [fX5_runStart_s] at hm
  refine lv_iload_n hx hb dX5_runStart_0 rfl (lv_at hl 1 rfl) ?_
  refine lv_iconst (v := 1) hx hb dX5_runStart_1 (by decide) ?_
  refine lv_isub hx hb dX5_runStart_2 ?_
  refine lv_istore_n (lv' := [(3, .int (x1 - 1)), (0, .ref (xa w 34)), (1, .int x1), (2, .int x2)]) hx hb dX5_runStart_3 rfl hl (by decide) rfl (fun ls hl => ?_)
  exact kX5_runStart_4 X V  4096 x2 (x1 - 1) M0 _ _ _ hm hP hS (lv_sub hl [1, 3, 0] rfl)
def fX5_tellLongest (x1 : Int32) (x2 : Int32) (x3 : Int32) (M0 : xM) : Option (Int32) := (fX5_longestLength x1 x2 M0).bind fun v1 => if x3 = 0 then (some v1) else (if v1 = 0 then (some (-1)) else ((fX5_firstRunEnd v1 x1 x2 M0).bind fun v4 => (fX5_runStart v4 v1 M0).bind fun v5 => if x3 = 1 then ((fX3_leastPlace v5 v4 M0).bind fun v9 => some v9) else (if x3 = 2 then (some (v4 - v5)) else ((fX3_countTexts v5 v4 M0).bind fun v8 => some v8))))
theorem fX5_tellLongest_s (x1 : Int32) (x2 : Int32) (x3 : Int32) (M0 : xM) : fX5_tellLongest x1 x2 x3 M0 = ((fX5_longestLength x1 x2 M0).bind fun v1 => if x3 = 0 then (some v1) else (if v1 = 0 then (some (-1)) else ((fX5_firstRunEnd v1 x1 x2 M0).bind fun v4 => (fX5_runStart v4 v1 M0).bind fun v5 => if x3 = 1 then ((fX3_leastPlace v5 v4 M0).bind fun v9 => some v9) else (if x3 = 2 then (some (v4 - v5)) else ((fX3_countTexts v5 v4 M0).bind fun v8 => some v8))))) := rfl
set_option maxHeartbeats 4000000 in
set_option maxRecDepth 100000 in
theorem qX5_tellLongest (l : Launch) (w : xT) (x1 : Int32) (x2 : Int32) (x3 : Int32) (M0 : xM) (V : Int32) (hm : fX5_tellLongest x1 x2 x3 M0 = some V) : xC l yX5_tellLongest (Cond.code yX5_tellLongest cX5_tellLongest 7 (some .int)) { frames := 5, cells := 0, slots := 0, locals := 119 } w [.ref (xa w 34), .int x1, .int x2, .int x3] M0 (some (.int V)) M0 := by
  refine xC.of (by decide) (Nat.le_of_ble_eq_true rfl) ?_
  intro p e s m args below meth c ls X hP hS hl
  have hl : lv_has ls 7 [(0, .ref (xa w 34)), (1, .int x1), (2, .int x2), (3, .int x3)] := hl
  have X : xX p s m args meth c cX5_tellLongest 7 (some .int) RX5 w := X
  have hx := X.1
  have hb := X.2.1
  have hown := X.2.2.2.2.2.1
  have hts := X.2.2.2.2.2.2.1
  rw [fX5_tellLongest_s] at hm
  refine lv_aload_n hx hb dX5_tellLongest_0 rfl (lv_at hl 0 rfl) ?_
  refine lv_iload_n hx hb dX5_tellLongest_1 rfl (lv_at hl 1 rfl) ?_
  refine lv_iload_n hx hb dX5_tellLongest_2 rfl (lv_at hl 2 rfl) ?_
  obtain ⟨v1, hg, hm⟩ := xbnd hm
  refine xcallV xm_X5_46 xt_X5_longestLength X hP hS (qX5_longestLength l w x1 x2 M0 v1 hg) xy34 rfl ⟨Nat.le_of_ble_eq_true rfl, Nat.le_of_ble_eq_true rfl⟩ ⟨rfl, rfl⟩ hl.1 rfl (rest := []) rfl (Nat.le_of_ble_eq_true rfl) dX5_tellLongest_3 ⟨Nat.zero_le _, Nat.zero_le _⟩ (fun H locs hP hS => ?_)
  refine W.eq (g2 := F0 m 6 ls [.int v1]) rfl ?_
  refine lv_istore (lv' := [(4, .int v1), (0, .ref (xa w 34)), (1, .int x1), (2, .int x2), (3, .int x3)]) hx hb dX5_tellLongest_6 hl (by decide) rfl (fun ls hl => ?_)
  refine lv_iload_n hx hb dX5_tellLongest_8 rfl (lv_at hl 4 rfl) ?_
  refine lv_if_ne (tgt := 15) hx hb dX5_tellLongest_9 (by decide) (fun c2 => ?_) (fun c2 => ?_)
  · have hm := xiff c2 hm
    refine lv_iload hx hb dX5_tellLongest_15 (lv_at hl 0 rfl) ?_
    refine lv_if_ne (tgt := 22) hx hb dX5_tellLongest_17 (by decide) (fun c3 => ?_) (fun c3 => ?_)
    · have hm := xiff c3 hm
      refine lv_aload_n hx hb dX5_tellLongest_22 rfl (lv_at hl 1 rfl) ?_
      refine lv_iload hx hb dX5_tellLongest_23 (lv_at hl 0 rfl) ?_
      refine lv_iload_n hx hb dX5_tellLongest_25 rfl (lv_at hl 2 rfl) ?_
      refine lv_iload_n hx hb dX5_tellLongest_26 rfl (lv_at hl 3 rfl) ?_
      obtain ⟨v4, hg, hm⟩ := xbnd hm
      refine xcallV xm_X5_50 xt_X5_firstRunEnd X hP hS (qX5_firstRunEnd l w v1 x1 x2 M0 v4 hg) xy34 rfl ⟨Nat.le_of_ble_eq_true rfl, Nat.le_of_ble_eq_true rfl⟩ ⟨rfl, rfl⟩ hl.1 rfl (rest := []) rfl (Nat.le_of_ble_eq_true rfl) dX5_tellLongest_27 ⟨Nat.zero_le _, Nat.zero_le _⟩ (fun H locs hP hS => ?_)
      refine W.eq (g2 := F0 m 30 ls [.int v4]) rfl ?_
      refine lv_istore (lv' := [(5, .int v4), (4, .int v1), (0, .ref (xa w 34)), (1, .int x1), (2, .int x2), (3, .int x3)]) hx hb dX5_tellLongest_30 hl (by decide) rfl (fun ls hl => ?_)
      refine lv_aload_n hx hb dX5_tellLongest_32 rfl (lv_at hl 2 rfl) ?_
      refine lv_iload hx hb dX5_tellLongest_33 (lv_at hl 0 rfl) ?_
      refine lv_iload hx hb dX5_tellLongest_35 (lv_at hl 1 rfl) ?_
      obtain ⟨v5, hg, hm⟩ := xbnd hm
      refine xcallV xm_X5_54 xt_X5_runStart X hP hS (qX5_runStart l w v4 v1 M0 v5 hg) xy34 rfl ⟨Nat.le_of_ble_eq_true rfl, Nat.le_of_ble_eq_true rfl⟩ ⟨rfl, rfl⟩ hl.1 rfl (rest := []) rfl (Nat.le_of_ble_eq_true rfl) dX5_tellLongest_37 ⟨Nat.zero_le _, Nat.zero_le _⟩ (fun H locs hP hS => ?_)
      refine W.eq (g2 := F0 m 40 ls [.int v5]) rfl ?_
      refine lv_istore (lv' := [(6, .int v5), (5, .int v4), (4, .int v1), (0, .ref (xa w 34)), (1, .int x1), (2, .int x2), (3, .int x3)]) hx hb dX5_tellLongest_40 hl (by decide) rfl (fun ls hl => ?_)
      refine lv_iload_n hx hb dX5_tellLongest_42 rfl (lv_at hl 6 rfl) ?_
      refine lv_iconst (v := 1) hx hb dX5_tellLongest_43 (by decide) ?_
      refine lv_icmp_ne (tgt := 59) hx hb dX5_tellLongest_44 (by decide) (fun c6 => ?_) (fun c6 => ?_)
      · have hm := xiff c6 hm
        refine lv_iload_n hx hb dX5_tellLongest_59 rfl (lv_at hl 6 rfl) ?_
        refine lv_iconst (v := 2) hx hb dX5_tellLongest_60 (by decide) ?_
        refine lv_icmp_ne (tgt := 72) hx hb dX5_tellLongest_61 (by decide) (fun c7 => ?_) (fun c7 => ?_)
        · have hm := xiff c7 hm
          refine lv_aload_n hx hb dX5_tellLongest_72 rfl (lv_at hl 3 rfl) ?_
          refine xget xcX5 X hP 34 1 xy34 (by decide) xf_X5_15 rfl dX5_tellLongest_73 ?_
          refine lv_iload hx hb dX5_tellLongest_76 (lv_at hl 0 rfl) ?_
          refine lv_iload hx hb dX5_tellLongest_78 (lv_at hl 1 rfl) ?_
          obtain ⟨v8, hg, hm⟩ := xbnd hm
          refine xcallV xm_X5_61 xt_X3_countTexts X hP hS (qX3_countTexts l w v5 v4 M0 v8 hg) xy9 rfl ⟨Nat.le_of_ble_eq_true rfl, Nat.le_of_ble_eq_true rfl⟩ ⟨rfl, rfl⟩ hl.1 rfl (rest := []) rfl (Nat.le_of_ble_eq_true rfl) dX5_tellLongest_80 ⟨Nat.zero_le _, Nat.zero_le _⟩ (fun H locs hP hS => ?_)
          refine W.eq (g2 := F0 m 83 ls [.int v8]) rfl ?_
          obtain rfl := Option.some.inj hm
          exact xiret X hP hS dX5_tellLongest_83
        · have hm := xift c7 hm
          refine lv_iload hx hb dX5_tellLongest_64 (lv_at hl 1 rfl) ?_
          refine lv_iload hx hb dX5_tellLongest_66 (lv_at hl 0 rfl) ?_
          refine lv_isub hx hb dX5_tellLongest_68 ?_
          refine lv_goto (tgt := 83) hx hb dX5_tellLongest_69 (by decide) ?_
          obtain rfl := Option.some.inj hm
          exact xiret X hP hS dX5_tellLongest_83
      · have hm := xift c6 hm
        refine lv_aload_n hx hb dX5_tellLongest_47 rfl (lv_at hl 3 rfl) ?_
        refine xget xcX5 X hP 34 1 xy34 (by decide) xf_X5_15 rfl dX5_tellLongest_48 ?_
        refine lv_iload hx hb dX5_tellLongest_51 (lv_at hl 0 rfl) ?_
        refine lv_iload hx hb dX5_tellLongest_53 (lv_at hl 1 rfl) ?_
        obtain ⟨v9, hg, hm⟩ := xbnd hm
        refine xcallV xm_X5_58 xt_X3_leastPlace X hP hS (qX3_leastPlace l w v5 v4 M0 v9 hg) xy9 rfl ⟨Nat.le_of_ble_eq_true rfl, Nat.le_of_ble_eq_true rfl⟩ ⟨rfl, rfl⟩ hl.1 rfl (rest := []) rfl (Nat.le_of_ble_eq_true rfl) dX5_tellLongest_55 ⟨Nat.zero_le _, Nat.zero_le _⟩ (fun H locs hP hS => ?_)
        refine W.eq (g2 := F0 m 58 ls [.int v9]) rfl ?_
        obtain rfl := Option.some.inj hm
        exact xiret X hP hS dX5_tellLongest_58
    · have hm := xift c3 hm
      refine lv_iconst (v := (-1)) hx hb dX5_tellLongest_20 (by decide) ?_
      obtain rfl := Option.some.inj hm
      exact xiret X hP hS dX5_tellLongest_21
  · have hm := xift c2 hm
    refine lv_iload hx hb dX5_tellLongest_12 (lv_at hl 0 rfl) ?_
    obtain rfl := Option.some.inj hm
    exact xiret X hP hS dX5_tellLongest_14
def fX8_longest (x1 : Int32) (x2 : Int32) (M0 : xM) : Option (Int32) := if x1 < 2 then (some (-1)) else (if 408 < x1 then (some (-1)) else (if x2 < 0 then (some (-1)) else (if x2 ≤ 2 then ((fX5_tellLongest x1 0 x2 M0).bind fun v5 => some v5) else (some (-1)))))
theorem fX8_longest_s (x1 : Int32) (x2 : Int32) (M0 : xM) : fX8_longest x1 x2 M0 = (if x1 < 2 then (some (-1)) else (if 408 < x1 then (some (-1)) else (if x2 < 0 then (some (-1)) else (if x2 ≤ 2 then ((fX5_tellLongest x1 0 x2 M0).bind fun v5 => some v5) else (some (-1)))))) := rfl
set_option maxHeartbeats 4000000 in
set_option maxRecDepth 100000 in
theorem qX8_longest (l : Launch) (w : xT) (x1 : Int32) (x2 : Int32) (M0 : xM) (V : Int32) (hm : fX8_longest x1 x2 M0 = some V) : xC l yX8_longest (Cond.code yX8_longest cX8_longest 3 (some .int)) { frames := 6, cells := 0, slots := 0, locals := 145 } w [.ref (xa w 0), .int x1, .int x2] M0 (some (.int V)) M0 := by
  refine xC.of (by decide) (Nat.le_of_ble_eq_true rfl) ?_
  intro p e s m args below meth c ls X hP hS hl
  have hl : lv_has ls 3 [(0, .ref (xa w 0)), (1, .int x1), (2, .int x2)] := hl
  have X : xX p s m args meth c cX8_longest 3 (some .int) RX8 w := X
  have hx := X.1
  have hb := X.2.1
  have hown := X.2.2.2.2.2.1
  have hts := X.2.2.2.2.2.2.1
  rw [fX8_longest_s] at hm
  refine lv_iload_n hx hb dX8_longest_0 rfl (lv_at hl 1 rfl) ?_
  refine lv_iconst (v := 2) hx hb dX8_longest_1 (by decide) ?_
  refine lv_icmp_lt (tgt := 21) hx hb dX8_longest_2 (by decide) (fun c1 => ?_) (fun c1 => ?_)
  · have hm := xift c1 hm
    refine lv_iconst (v := (-1)) hx hb dX8_longest_21 (by decide) ?_
    obtain rfl := Option.some.inj hm
    exact xiret X hP hS dX8_longest_22
  · have hm := xiff c1 hm
    refine lv_iload_n hx hb dX8_longest_5 rfl (lv_at hl 1 rfl) ?_
    refine lv_sipush (v := 408) hx hb dX8_longest_6 (by decide) ?_
    refine lv_icmp_gt (tgt := 21) hx hb dX8_longest_9 (by decide) (fun c2 => ?_) (fun c2 => ?_)
    · have hm := xift c2 hm
      refine lv_iconst (v := (-1)) hx hb dX8_longest_21 (by decide) ?_
      obtain rfl := Option.some.inj hm
      exact xiret X hP hS dX8_longest_22
    · have hm := xiff c2 hm
      refine lv_iload_n hx hb dX8_longest_12 rfl (lv_at hl 2 rfl) ?_
      refine lv_if_lt (tgt := 21) hx hb dX8_longest_13 (by decide) (fun c3 => ?_) (fun c3 => ?_)
      · have hm := xift c3 hm
        refine lv_iconst (v := (-1)) hx hb dX8_longest_21 (by decide) ?_
        obtain rfl := Option.some.inj hm
        exact xiret X hP hS dX8_longest_22
      · have hm := xiff c3 hm
        refine lv_iload_n hx hb dX8_longest_16 rfl (lv_at hl 2 rfl) ?_
        refine lv_iconst (v := 2) hx hb dX8_longest_17 (by decide) ?_
        refine lv_icmp_le (tgt := 23) hx hb dX8_longest_18 (by decide) (fun c4 => ?_) (fun c4 => ?_)
        · have hm := xift c4 hm
          refine lv_aload_n hx hb dX8_longest_23 rfl (lv_at hl 0 rfl) ?_
          refine xget xcX8 X hP 0 5 xy0 (by decide) xf_X8_51 rfl dX8_longest_24 ?_
          refine lv_iload_n hx hb dX8_longest_27 rfl (lv_at hl 1 rfl) ?_
          refine lv_iconst (v := 0) hx hb dX8_longest_28 (by decide) ?_
          refine lv_iload_n hx hb dX8_longest_29 rfl (lv_at hl 2 rfl) ?_
          obtain ⟨v5, hg, hm⟩ := xbnd hm
          refine xcallV xm_X8_167 xt_X5_tellLongest X hP hS (qX5_tellLongest l w x1 0 x2 M0 v5 hg) xy34 rfl ⟨Nat.le_of_ble_eq_true rfl, Nat.le_of_ble_eq_true rfl⟩ ⟨rfl, rfl⟩ hl.1 rfl (rest := []) rfl (Nat.le_of_ble_eq_true rfl) dX8_longest_30 ⟨Nat.zero_le _, Nat.zero_le _⟩ (fun H locs hP hS => ?_)
          refine W.eq (g2 := F0 m 33 ls [.int v5]) rfl ?_
          obtain rfl := Option.some.inj hm
          exact xiret X hP hS dX8_longest_33
        · have hm := xiff c4 hm
          refine lv_iconst (v := (-1)) hx hb dX8_longest_21 (by decide) ?_
          obtain rfl := Option.some.inj hm
          exact xiret X hP hS dX8_longest_22
def fX9_tellStretch_114  (x3 : Int32) (x4 : Int32) (x5 : Int32) (x6 : Int32) (M0 : xM) : Option (Int32) := if x3 = 1 then (some x4) else (if x3 = 2 then (some x5) else (some x6))
theorem fX9_tellStretch_114_s  (x3 : Int32) (x4 : Int32) (x5 : Int32) (x6 : Int32) (M0 : xM) : fX9_tellStretch_114  x3 x4 x5 x6 M0 = (if x3 = 1 then (some x4) else (if x3 = 2 then (some x5) else (some x6))) := rfl
set_option maxHeartbeats 4000000 in
set_option maxRecDepth 100000 in
theorem kX9_tellStretch_114 {p : Program} {l : Launch} {e : Env} {s : State} {m : MethodId} {args : Array Value} {below : List Frame} {meth : Method} {c : Code} {w : xT} (X : xX p s m args meth c cX9_tellStretch 9 (some .int) RX9 w) (V : Int32)  : ∀ (x3 : Int32) (x4 : Int32) (x5 : Int32) (x6 : Int32) (M0 : xM) (H : Heap) (locs : List Loc) (ls : Array Slot), fX9_tellStretch_114  x3 x4 x5 x6 M0 = some V → xP w M0 H → xS w s H locs → lv_has ls 9 [(3, .int x3), (4, .int x4), (5, .int x5), (6, .int x6)] → W p l e { frames := 1, cells := 0, slots := 0, locals := 22 } s m args below meth c H locs 0 0 (xQ w (some (.int V)) M0 below args s) (F0 m 114 ls []) := by
  have hx := X.1
  have hb := X.2.1
  have hown := X.2.2.2.2.2.1
  have hts := X.2.2.2.2.2.2.1
  intro x3 x4 x5 x6 M0 H locs ls hm hP hS hl
  rw [fX9_tellStretch_114_s] at hm
  refine lv_iload_n hx hb dX9_tellStretch_114 rfl (lv_at hl 0 rfl) ?_
  refine lv_iconst (v := 1) hx hb dX9_tellStretch_115 (by decide) ?_
  refine lv_icmp_ne (tgt := 124) hx hb dX9_tellStretch_116 (by decide) (fun c1 => ?_) (fun c1 => ?_)
  · have hm := xiff c1 hm
    refine lv_iload_n hx hb dX9_tellStretch_124 rfl (lv_at hl 0 rfl) ?_
    refine lv_iconst (v := 2) hx hb dX9_tellStretch_125 (by decide) ?_
    refine lv_icmp_ne (tgt := 134) hx hb dX9_tellStretch_126 (by decide) (fun c2 => ?_) (fun c2 => ?_)
    · have hm := xiff c2 hm
      refine lv_iload hx hb dX9_tellStretch_134 (lv_at hl 3 rfl) ?_
      obtain rfl := Option.some.inj hm
      exact xiret X hP hS dX9_tellStretch_136
    · have hm := xift c2 hm
      refine lv_iload hx hb dX9_tellStretch_129 (lv_at hl 2 rfl) ?_
      refine lv_goto (tgt := 136) hx hb dX9_tellStretch_131 (by decide) ?_
      obtain rfl := Option.some.inj hm
      exact xiret X hP hS dX9_tellStretch_136
  · have hm := xift c1 hm
    refine lv_iload hx hb dX9_tellStretch_119 (lv_at hl 1 rfl) ?_
    refine lv_goto (tgt := 136) hx hb dX9_tellStretch_121 (by decide) ?_
    obtain rfl := Option.some.inj hm
    exact xiret X hP hS dX9_tellStretch_136
def fX9_tellStretch_108 (k27 : Int32 → Int32 → Int32 → Int32 → Int32 → Int32 → Int32 → Int32 → xM → Option (Int32)) (x1 : Int32) (x2 : Int32) (x3 : Int32) (x4 : Int32) (x5 : Int32) (x6 : Int32) (x7 : Int32) (x8 : Int32) (M0 : xM) : Option (Int32) := k27 x1 x2 x3 x4 x5 x6 x7 (x8 + 1) M0
theorem fX9_tellStretch_108_s (k27 : Int32 → Int32 → Int32 → Int32 → Int32 → Int32 → Int32 → Int32 → xM → Option (Int32)) (x1 : Int32) (x2 : Int32) (x3 : Int32) (x4 : Int32) (x5 : Int32) (x6 : Int32) (x7 : Int32) (x8 : Int32) (M0 : xM) : fX9_tellStretch_108 k27 x1 x2 x3 x4 x5 x6 x7 x8 M0 = (k27 x1 x2 x3 x4 x5 x6 x7 (x8 + 1) M0) := rfl
set_option maxHeartbeats 4000000 in
set_option maxRecDepth 100000 in
theorem kX9_tellStretch_108 {p : Program} {l : Launch} {e : Env} {s : State} {m : MethodId} {args : Array Value} {below : List Frame} {meth : Method} {c : Code} {w : xT} (X : xX p s m args meth c cX9_tellStretch 9 (some .int) RX9 w) (V : Int32) (k27 : Int32 → Int32 → Int32 → Int32 → Int32 → Int32 → Int32 → Int32 → xM → Option (Int32)) (hk27 : ∀ (x1 : Int32) (x2 : Int32) (x3 : Int32) (x4 : Int32) (x5 : Int32) (x6 : Int32) (x7 : Int32) (x8 : Int32) (M : xM) (H : Heap) (locs : List Loc) (ls : Array Slot), k27 x1 x2 x3 x4 x5 x6 x7 x8 M = some V → xP w M H → xS w s H locs → lv_has ls 9 [(0, .ref (xa w 37)), (1, .int x1), (2, .int x2), (3, .int x3), (4, .int x4), (5, .int x5), (6, .int x6), (7, .int x7), (8, .int x8)] → W p l e { frames := 1, cells := 0, slots := 0, locals := 22 } s m args below meth c H locs 0 0 (xQ w (some (.int V)) M below args s) (F0 m 27 ls [])) : ∀ (x1 : Int32) (x2 : Int32) (x3 : Int32) (x4 : Int32) (x5 : Int32) (x6 : Int32) (x7 : Int32) (x8 : Int32) (M0 : xM) (H : Heap) (locs : List Loc) (ls : Array Slot), fX9_tellStretch_108 k27 x1 x2 x3 x4 x5 x6 x7 x8 M0 = some V → xP w M0 H → xS w s H locs → lv_has ls 9 [(0, .ref (xa w 37)), (1, .int x1), (2, .int x2), (3, .int x3), (4, .int x4), (5, .int x5), (6, .int x6), (7, .int x7), (8, .int x8)] → W p l e { frames := 1, cells := 0, slots := 0, locals := 22 } s m args below meth c H locs 0 0 (xQ w (some (.int V)) M0 below args s) (F0 m 108 ls []) := by
  have hx := X.1
  have hb := X.2.1
  have hown := X.2.2.2.2.2.1
  have hts := X.2.2.2.2.2.2.1
  intro x1 x2 x3 x4 x5 x6 x7 x8 M0 H locs ls hm hP hS hl
  rw [fX9_tellStretch_108_s] at hm
  refine lv_iinc (v := x8 + 1) (lv' := [(8, .int (x8 + 1)), (0, .ref (xa w 37)), (1, .int x1), (2, .int x2), (3, .int x3), (4, .int x4), (5, .int x5), (6, .int x6), (7, .int x7)]) hx hb dX9_tellStretch_108 hl (k := 8) rfl rfl (by decide) rfl (fun ls hl => ?_)
  refine lv_goto (tgt := 27) hx hb dX9_tellStretch_111 (by decide) ?_
  exact hk27 x1 x2 x3 x4 x5 x6 x7 (x8 + 1) M0 _ _ _ hm hP hS (lv_sub hl [1, 2, 3, 4, 5, 6, 7, 8, 0] rfl)
def fX9_tellStretch_91 (k27 : Int32 → Int32 → Int32 → Int32 → Int32 → Int32 → Int32 → Int32 → xM → Option (Int32)) (x1 : Int32) (x2 : Int32) (x3 : Int32) (x4 : Int32) (x5 : Int32) (x7 : Int32) (x8 : Int32) (s0 : Int32) (s1 : Int32) (M0 : xM) : Option (Int32) := if xin x8 408 then xlt (x7 ||| (1 <<< ((M0 41 x8.toNatClampNeg) &&& 31))) fun y4 => fX9_tellStretch_108 k27 x1 x2 x3 x4 x5 (s0 + s1) y4 x8 M0 else none
theorem fX9_tellStretch_91_s (k27 : Int32 → Int32 → Int32 → Int32 → Int32 → Int32 → Int32 → Int32 → xM → Option (Int32)) (x1 : Int32) (x2 : Int32) (x3 : Int32) (x4 : Int32) (x5 : Int32) (x7 : Int32) (x8 : Int32) (s0 : Int32) (s1 : Int32) (M0 : xM) : fX9_tellStretch_91 k27 x1 x2 x3 x4 x5 x7 x8 s0 s1 M0 = (if xin x8 408 then xlt (x7 ||| (1 <<< ((M0 41 x8.toNatClampNeg) &&& 31))) fun y4 => fX9_tellStretch_108 k27 x1 x2 x3 x4 x5 (s0 + s1) y4 x8 M0 else none) := rfl
set_option maxHeartbeats 4000000 in
set_option maxRecDepth 100000 in
theorem kX9_tellStretch_91 {p : Program} {l : Launch} {e : Env} {s : State} {m : MethodId} {args : Array Value} {below : List Frame} {meth : Method} {c : Code} {w : xT} (X : xX p s m args meth c cX9_tellStretch 9 (some .int) RX9 w) (V : Int32) (k27 : Int32 → Int32 → Int32 → Int32 → Int32 → Int32 → Int32 → Int32 → xM → Option (Int32)) (hk27 : ∀ (x1 : Int32) (x2 : Int32) (x3 : Int32) (x4 : Int32) (x5 : Int32) (x6 : Int32) (x7 : Int32) (x8 : Int32) (M : xM) (H : Heap) (locs : List Loc) (ls : Array Slot), k27 x1 x2 x3 x4 x5 x6 x7 x8 M = some V → xP w M H → xS w s H locs → lv_has ls 9 [(0, .ref (xa w 37)), (1, .int x1), (2, .int x2), (3, .int x3), (4, .int x4), (5, .int x5), (6, .int x6), (7, .int x7), (8, .int x8)] → W p l e { frames := 1, cells := 0, slots := 0, locals := 22 } s m args below meth c H locs 0 0 (xQ w (some (.int V)) M below args s) (F0 m 27 ls [])) : ∀ (x1 : Int32) (x2 : Int32) (x3 : Int32) (x4 : Int32) (x5 : Int32) (x7 : Int32) (x8 : Int32) (s0 : Int32) (s1 : Int32) (M0 : xM) (H : Heap) (locs : List Loc) (ls : Array Slot), fX9_tellStretch_91 k27 x1 x2 x3 x4 x5 x7 x8 s0 s1 M0 = some V → xP w M0 H → xS w s H locs → lv_has ls 9 [(0, .ref (xa w 37)), (1, .int x1), (2, .int x2), (3, .int x3), (4, .int x4), (5, .int x5), (7, .int x7), (8, .int x8)] → W p l e { frames := 1, cells := 0, slots := 0, locals := 22 } s m args below meth c H locs 0 0 (xQ w (some (.int V)) M0 below args s) (F0 m 91 ls [.int s1, .int s0]) := by
  have hx := X.1
  have hb := X.2.1
  have hown := X.2.2.2.2.2.1
  have hts := X.2.2.2.2.2.2.1
  intro x1 x2 x3 x4 x5 x7 x8 s0 s1 M0 H locs ls hm hP hS hl
  rw [fX9_tellStretch_91_s] at hm
  refine lv_iadd hx hb dX9_tellStretch_91 ?_
  refine lv_istore (lv' := [(6, .int (s0 + s1)), (0, .ref (xa w 37)), (1, .int x1), (2, .int x2), (3, .int x3), (4, .int x4), (5, .int x5), (7, .int x7), (8, .int x8)]) hx hb dX9_tellStretch_92 hl (by decide) rfl (fun ls hl => ?_)
  refine lv_iload hx hb dX9_tellStretch_94 (lv_at hl 7 rfl) ?_
  refine lv_iconst (v := 1) hx hb dX9_tellStretch_96 (by decide) ?_
  refine lv_aload_n hx hb dX9_tellStretch_97 rfl (lv_at hl 1 rfl) ?_
  refine xget xcX9 X hP 37 4 xy37 (by decide) xf_X9_19 rfl dX9_tellStretch_98 ?_
  refine lv_iload hx hb dX9_tellStretch_101 (lv_at hl 8 rfl) ?_
  obtain ⟨hi3, hm⟩ := xifn hm
  refine xiald X hP 41 xy41 hi3 dX9_tellStretch_103 ?_
  refine lv_ishl hx hb dX9_tellStretch_104 ?_
  refine lv_ior hx hb dX9_tellStretch_105 ?_
  refine lv_topi (fun y4 ey4 => ?_)
  have hm := xltE hm ey4
  refine lv_istore (lv' := [(7, .int y4), (6, .int (s0 + s1)), (0, .ref (xa w 37)), (1, .int x1), (2, .int x2), (3, .int x3), (4, .int x4), (5, .int x5), (8, .int x8)]) hx hb dX9_tellStretch_106 hl (by decide) rfl (fun ls hl => ?_)
  exact kX9_tellStretch_108 X V k27 hk27 x1 x2 x3 x4 x5 (s0 + s1) y4 x8 M0 _ _ _ hm hP hS (lv_sub hl [2, 3, 4, 5, 6, 7, 1, 0, 8] rfl)
def fX9_tellStretch_64 (k27 : Int32 → Int32 → Int32 → Int32 → Int32 → Int32 → Int32 → Int32 → xM → Option (Int32)) (x1 : Int32) (x2 : Int32) (x3 : Int32) (x5 : Int32) (x6 : Int32) (x7 : Int32) (x8 : Int32) (s0 : Int32) (M0 : xM) : Option (Int32) := if xin x8 408 then if ((x7 >>> ((M0 41 x8.toNatClampNeg) &&& 31)) &&& 1) = 0 then (fX9_tellStretch_91 k27 x1 x2 x3 s0 (x5 + 1) x7 x8 x6 1 M0) else (fX9_tellStretch_91 k27 x1 x2 x3 s0 (x5 + 1) x7 x8 x6 0 M0) else none
theorem fX9_tellStretch_64_s (k27 : Int32 → Int32 → Int32 → Int32 → Int32 → Int32 → Int32 → Int32 → xM → Option (Int32)) (x1 : Int32) (x2 : Int32) (x3 : Int32) (x5 : Int32) (x6 : Int32) (x7 : Int32) (x8 : Int32) (s0 : Int32) (M0 : xM) : fX9_tellStretch_64 k27 x1 x2 x3 x5 x6 x7 x8 s0 M0 = (if xin x8 408 then if ((x7 >>> ((M0 41 x8.toNatClampNeg) &&& 31)) &&& 1) = 0 then (fX9_tellStretch_91 k27 x1 x2 x3 s0 (x5 + 1) x7 x8 x6 1 M0) else (fX9_tellStretch_91 k27 x1 x2 x3 s0 (x5 + 1) x7 x8 x6 0 M0) else none) := rfl
set_option maxHeartbeats 4000000 in
set_option maxRecDepth 100000 in
theorem kX9_tellStretch_64 {p : Program} {l : Launch} {e : Env} {s : State} {m : MethodId} {args : Array Value} {below : List Frame} {meth : Method} {c : Code} {w : xT} (X : xX p s m args meth c cX9_tellStretch 9 (some .int) RX9 w) (V : Int32) (k27 : Int32 → Int32 → Int32 → Int32 → Int32 → Int32 → Int32 → Int32 → xM → Option (Int32)) (hk27 : ∀ (x1 : Int32) (x2 : Int32) (x3 : Int32) (x4 : Int32) (x5 : Int32) (x6 : Int32) (x7 : Int32) (x8 : Int32) (M : xM) (H : Heap) (locs : List Loc) (ls : Array Slot), k27 x1 x2 x3 x4 x5 x6 x7 x8 M = some V → xP w M H → xS w s H locs → lv_has ls 9 [(0, .ref (xa w 37)), (1, .int x1), (2, .int x2), (3, .int x3), (4, .int x4), (5, .int x5), (6, .int x6), (7, .int x7), (8, .int x8)] → W p l e { frames := 1, cells := 0, slots := 0, locals := 22 } s m args below meth c H locs 0 0 (xQ w (some (.int V)) M below args s) (F0 m 27 ls [])) : ∀ (x1 : Int32) (x2 : Int32) (x3 : Int32) (x5 : Int32) (x6 : Int32) (x7 : Int32) (x8 : Int32) (s0 : Int32) (M0 : xM) (H : Heap) (locs : List Loc) (ls : Array Slot), fX9_tellStretch_64 k27 x1 x2 x3 x5 x6 x7 x8 s0 M0 = some V → xP w M0 H → xS w s H locs → lv_has ls 9 [(0, .ref (xa w 37)), (1, .int x1), (2, .int x2), (3, .int x3), (5, .int x5), (6, .int x6), (7, .int x7), (8, .int x8)] → W p l e { frames := 1, cells := 0, slots := 0, locals := 22 } s m args below meth c H locs 0 0 (xQ w (some (.int V)) M0 below args s) (F0 m 64 ls [.int s0]) := by
  have hx := X.1
  have hb := X.2.1
  have hown := X.2.2.2.2.2.1
  have hts := X.2.2.2.2.2.2.1
  intro x1 x2 x3 x5 x6 x7 x8 s0 M0 H locs ls hm hP hS hl
  rw [fX9_tellStretch_64_s] at hm
  refine lv_istore (lv' := [(4, .int s0), (0, .ref (xa w 37)), (1, .int x1), (2, .int x2), (3, .int x3), (5, .int x5), (6, .int x6), (7, .int x7), (8, .int x8)]) hx hb dX9_tellStretch_64 hl (by decide) rfl (fun ls hl => ?_)
  refine lv_iinc (v := x5 + 1) (lv' := [(5, .int (x5 + 1)), (4, .int s0), (0, .ref (xa w 37)), (1, .int x1), (2, .int x2), (3, .int x3), (6, .int x6), (7, .int x7), (8, .int x8)]) hx hb dX9_tellStretch_66 hl (k := 5) rfl rfl (by decide) rfl (fun ls hl => ?_)
  refine lv_iload hx hb dX9_tellStretch_69 (lv_at hl 6 rfl) ?_
  refine lv_iload hx hb dX9_tellStretch_71 (lv_at hl 7 rfl) ?_
  refine lv_aload_n hx hb dX9_tellStretch_73 rfl (lv_at hl 2 rfl) ?_
  refine xget xcX9 X hP 37 4 xy37 (by decide) xf_X9_19 rfl dX9_tellStretch_74 ?_
  refine lv_iload hx hb dX9_tellStretch_77 (lv_at hl 8 rfl) ?_
  obtain ⟨hi5, hm⟩ := xifn hm
  refine xiald X hP 41 xy41 hi5 dX9_tellStretch_79 ?_
  refine lv_ishr hx hb dX9_tellStretch_80 ?_
  refine lv_iconst (v := 1) hx hb dX9_tellStretch_81 (by decide) ?_
  refine lv_iand hx hb dX9_tellStretch_82 ?_
  refine lv_if_ne (tgt := 90) hx hb dX9_tellStretch_83 (by decide) (fun c6 => ?_) (fun c6 => ?_)
  · have hm := xiff c6 hm
    refine lv_iconst (v := 0) hx hb dX9_tellStretch_90 (by decide) ?_
    exact kX9_tellStretch_91 X V k27 hk27 x1 x2 x3 s0 (x5 + 1) x7 x8 x6 0 M0 _ _ _ hm hP hS (lv_sub hl [2, 3, 4, 5, 1, 0, 7, 8] rfl)
  · have hm := xift c6 hm
    refine lv_iconst (v := 1) hx hb dX9_tellStretch_86 (by decide) ?_
    refine lv_goto (tgt := 91) hx hb dX9_tellStretch_87 (by decide) ?_
    exact kX9_tellStretch_91 X V k27 hk27 x1 x2 x3 s0 (x5 + 1) x7 x8 x6 1 M0 _ _ _ hm hP hS (lv_sub hl [2, 3, 4, 5, 1, 0, 7, 8] rfl)
def fX9_tellStretch_27  : Nat → Int32 → Int32 → Int32 → Int32 → Int32 → Int32 → Int32 → Int32 → xM → Option (Int32)
  | 0 => fun _ _ _ _ _ _ _ _ _ => none
  | n + 1 => fun x1 x2 x3 x4 x5 x6 x7 x8 M0 => if (M0 37 6) ≤ x8 then (fX9_tellStretch_114 x3 x4 x5 x6 M0) else (if xin x1 408 then (fX9_common0 x8 (M0 44 x1.toNatClampNeg) M0).bind fun v9 => if v9 < x2 then (fX9_tellStretch_108 (fX9_tellStretch_27 n) x1 x2 x3 x4 x5 x6 x7 x8 M0) else (if 0 ≤ x4 then (fX9_tellStretch_64 (fX9_tellStretch_27 n) x1 x2 x3 x5 x6 x7 x8 x4 M0) else (fX9_tellStretch_64 (fX9_tellStretch_27 n) x1 x2 x3 x5 x6 x7 x8 x8 M0)) else none)
theorem fX9_tellStretch_27_s  (n : Nat) (x1 : Int32) (x2 : Int32) (x3 : Int32) (x4 : Int32) (x5 : Int32) (x6 : Int32) (x7 : Int32) (x8 : Int32) (M0 : xM) : fX9_tellStretch_27  (n + 1) x1 x2 x3 x4 x5 x6 x7 x8 M0 = (if (M0 37 6) ≤ x8 then (fX9_tellStretch_114 x3 x4 x5 x6 M0) else (if xin x1 408 then (fX9_common0 x8 (M0 44 x1.toNatClampNeg) M0).bind fun v9 => if v9 < x2 then (fX9_tellStretch_108 (fX9_tellStretch_27 n) x1 x2 x3 x4 x5 x6 x7 x8 M0) else (if 0 ≤ x4 then (fX9_tellStretch_64 (fX9_tellStretch_27 n) x1 x2 x3 x5 x6 x7 x8 x4 M0) else (fX9_tellStretch_64 (fX9_tellStretch_27 n) x1 x2 x3 x5 x6 x7 x8 x8 M0)) else none)) := rfl
set_option maxHeartbeats 4000000 in
set_option maxRecDepth 100000 in
theorem kX9_tellStretch_27 {p : Program} {l : Launch} {e : Env} {s : State} {m : MethodId} {args : Array Value} {below : List Frame} {meth : Method} {c : Code} {w : xT} (X : xX p s m args meth c cX9_tellStretch 9 (some .int) RX9 w) (V : Int32)  : ∀ (n : Nat) (x1 : Int32) (x2 : Int32) (x3 : Int32) (x4 : Int32) (x5 : Int32) (x6 : Int32) (x7 : Int32) (x8 : Int32) (M0 : xM) (H : Heap) (locs : List Loc) (ls : Array Slot), fX9_tellStretch_27  n x1 x2 x3 x4 x5 x6 x7 x8 M0 = some V → xP w M0 H → xS w s H locs → lv_has ls 9 [(0, .ref (xa w 37)), (1, .int x1), (2, .int x2), (3, .int x3), (4, .int x4), (5, .int x5), (6, .int x6), (7, .int x7), (8, .int x8)] → W p l e { frames := 1, cells := 0, slots := 0, locals := 22 } s m args below meth c H locs 0 0 (xQ w (some (.int V)) M0 below args s) (F0 m 27 ls []) := by
  have hx := X.1
  have hb := X.2.1
  have hown := X.2.2.2.2.2.1
  have hts := X.2.2.2.2.2.2.1
  intro n
  induction n with
  | zero => intro x1 x2 x3 x4 x5 x6 x7 x8 M0 H locs ls hm hP hS hl; exact xnon hm
  | succ n ih =>
    intro x1 x2 x3 x4 x5 x6 x7 x8 M0 H locs ls hm hP hS hl
    rw [fX9_tellStretch_27_s] at hm
    refine lv_iload hx hb dX9_tellStretch_27 (lv_at hl 8 rfl) ?_
    refine lv_aload_n hx hb dX9_tellStretch_29 rfl (lv_at hl 0 rfl) ?_
    refine xgeti xcX9 X hP 37 6 xy37 (by decide) xf_X9_48 rfl dX9_tellStretch_30 ?_
    refine lv_icmp_ge (tgt := 114) hx hb dX9_tellStretch_33 (by decide) (fun c7 => ?_) (fun c7 => ?_)
    · have hm := xift c7 hm
      exact kX9_tellStretch_114 X V  x3 x4 x5 x6 M0 _ _ _ hm hP hS (lv_sub hl [3, 4, 5, 6] rfl)
    · have hm := xiff c7 hm
      refine lv_aload_n hx hb dX9_tellStretch_36 rfl (lv_at hl 0 rfl) ?_
      refine lv_iload hx hb dX9_tellStretch_37 (lv_at hl 8 rfl) ?_
      refine lv_aload_n hx hb dX9_tellStretch_39 rfl (lv_at hl 0 rfl) ?_
      refine xget xcX9 X hP 37 8 xy37 (by decide) xf_X9_29 rfl dX9_tellStretch_40 ?_
      refine lv_iload_n hx hb dX9_tellStretch_43 rfl (lv_at hl 1 rfl) ?_
      obtain ⟨hi8, hm⟩ := xifn hm
      refine xiald X hP 44 xy44 hi8 dX9_tellStretch_44 ?_
      obtain ⟨v9, hg, hm⟩ := xbnd hm
      refine xcallV xm_X9_70 xt_X9_common0 X hP hS (qX9_common0 l w x8 (M0 44 x1.toNatClampNeg) M0 v9 hg) xy37 rfl ⟨Nat.le_of_ble_eq_true rfl, Nat.le_of_ble_eq_true rfl⟩ ⟨rfl, rfl⟩ hl.1 rfl (rest := []) rfl (Nat.le_of_ble_eq_true rfl) dX9_tellStretch_45 ⟨Nat.zero_le _, Nat.zero_le _⟩ (fun H locs hP hS => ?_)
      refine W.eq (g2 := F0 m 48 ls [.int v9]) rfl ?_
      refine lv_iload_n hx hb dX9_tellStretch_48 rfl (lv_at hl 2 rfl) ?_
      refine lv_icmp_lt (tgt := 108) hx hb dX9_tellStretch_49 (by decide) (fun c10 => ?_) (fun c10 => ?_)
      · have hm := xift c10 hm
        exact kX9_tellStretch_108 X V (fX9_tellStretch_27 n) ih x1 x2 x3 x4 x5 x6 x7 x8 M0 _ _ _ hm hP hS (lv_sub hl [0, 1, 2, 3, 4, 5, 6, 7, 8] rfl)
      · have hm := xiff c10 hm
        refine lv_iload hx hb dX9_tellStretch_52 (lv_at hl 4 rfl) ?_
        refine lv_if_ge (tgt := 62) hx hb dX9_tellStretch_54 (by decide) (fun c11 => ?_) (fun c11 => ?_)
        · have hm := xift c11 hm
          refine lv_iload hx hb dX9_tellStretch_62 (lv_at hl 4 rfl) ?_
          exact kX9_tellStretch_64 X V (fX9_tellStretch_27 n) ih x1 x2 x3 x5 x6 x7 x8 x4 M0 _ _ _ hm hP hS (lv_sub hl [0, 1, 2, 3, 5, 6, 7, 8] rfl)
        · have hm := xiff c11 hm
          refine lv_iload hx hb dX9_tellStretch_57 (lv_at hl 8 rfl) ?_
          refine lv_goto (tgt := 64) hx hb dX9_tellStretch_59 (by decide) ?_
          exact kX9_tellStretch_64 X V (fX9_tellStretch_27 n) ih x1 x2 x3 x5 x6 x7 x8 x8 M0 _ _ _ hm hP hS (lv_sub hl [0, 1, 2, 3, 5, 6, 7, 8] rfl)
def fX9_tellStretch (x1 : Int32) (x2 : Int32) (x3 : Int32) (M0 : xM) : Option (Int32) := if x3 = 0 then (some x2) else (if x2 = 0 then (some (-1)) else (fX9_tellStretch_27 4096 x1 x2 x3 (-1) 0 0 0 0 M0))
theorem fX9_tellStretch_s (x1 : Int32) (x2 : Int32) (x3 : Int32) (M0 : xM) : fX9_tellStretch x1 x2 x3 M0 = (if x3 = 0 then (some x2) else (if x2 = 0 then (some (-1)) else (fX9_tellStretch_27 4096 x1 x2 x3 (-1) 0 0 0 0 M0))) := rfl
set_option maxHeartbeats 4000000 in
set_option maxRecDepth 100000 in
theorem qX9_tellStretch (l : Launch) (w : xT) (x1 : Int32) (x2 : Int32) (x3 : Int32) (M0 : xM) (V : Int32) (hm : fX9_tellStretch x1 x2 x3 M0 = some V) : xC l yX9_tellStretch (Cond.code yX9_tellStretch cX9_tellStretch 9 (some .int)) { frames := 1, cells := 0, slots := 0, locals := 22 } w [.ref (xa w 37), .int x1, .int x2, .int x3] M0 (some (.int V)) M0 := by
  refine xC.of (by decide) (Nat.le_of_ble_eq_true rfl) ?_
  intro p e s m args below meth c ls X hP hS hl
  have hl : lv_has ls 9 [(0, .ref (xa w 37)), (1, .int x1), (2, .int x2), (3, .int x3)] := hl
  have X : xX p s m args meth c cX9_tellStretch 9 (some .int) RX9 w := X
  have hx := X.1
  have hb := X.2.1
  have hown := X.2.2.2.2.2.1
  have hts := X.2.2.2.2.2.2.1
  rw [fX9_tellStretch_s] at hm
  refine lv_iload_n hx hb dX9_tellStretch_0 rfl (lv_at hl 3 rfl) ?_
  refine lv_if_ne (tgt := 6) hx hb dX9_tellStretch_1 (by decide) (fun c12 => ?_) (fun c12 => ?_)
  · have hm := xiff c12 hm
    refine lv_iload_n hx hb dX9_tellStretch_6 rfl (lv_at hl 2 rfl) ?_
    refine lv_if_ne (tgt := 12) hx hb dX9_tellStretch_7 (by decide) (fun c13 => ?_) (fun c13 => ?_)
    · have hm := xiff c13 hm
      refine lv_iconst (v := (-1)) hx hb dX9_tellStretch_12 (by decide) ?_
      refine lv_istore (lv' := [(4, .int (-1)), (0, .ref (xa w 37)), (1, .int x1), (2, .int x2), (3, .int x3)]) hx hb dX9_tellStretch_13 hl (by decide) rfl (fun ls hl => ?_)
      refine lv_iconst (v := 0) hx hb dX9_tellStretch_15 (by decide) ?_
      refine lv_istore (lv' := [(5, .int 0), (4, .int (-1)), (0, .ref (xa w 37)), (1, .int x1), (2, .int x2), (3, .int x3)]) hx hb dX9_tellStretch_16 hl (by decide) rfl (fun ls hl => ?_)
      refine lv_iconst (v := 0) hx hb dX9_tellStretch_18 (by decide) ?_
      refine lv_istore (lv' := [(6, .int 0), (5, .int 0), (4, .int (-1)), (0, .ref (xa w 37)), (1, .int x1), (2, .int x2), (3, .int x3)]) hx hb dX9_tellStretch_19 hl (by decide) rfl (fun ls hl => ?_)
      refine lv_iconst (v := 0) hx hb dX9_tellStretch_21 (by decide) ?_
      refine lv_istore (lv' := [(7, .int 0), (6, .int 0), (5, .int 0), (4, .int (-1)), (0, .ref (xa w 37)), (1, .int x1), (2, .int x2), (3, .int x3)]) hx hb dX9_tellStretch_22 hl (by decide) rfl (fun ls hl => ?_)
      refine lv_iconst (v := 0) hx hb dX9_tellStretch_24 (by decide) ?_
      refine lv_istore (lv' := [(8, .int 0), (7, .int 0), (6, .int 0), (5, .int 0), (4, .int (-1)), (0, .ref (xa w 37)), (1, .int x1), (2, .int x2), (3, .int x3)]) hx hb dX9_tellStretch_25 hl (by decide) rfl (fun ls hl => ?_)
      exact kX9_tellStretch_27 X V  4096 x1 x2 x3 (-1) 0 0 0 0 M0 _ _ _ hm hP hS (lv_sub hl [5, 6, 7, 8, 4, 3, 2, 1, 0] rfl)
    · have hm := xift c13 hm
      refine lv_iconst (v := (-1)) hx hb dX9_tellStretch_10 (by decide) ?_
      obtain rfl := Option.some.inj hm
      exact xiret X hP hS dX9_tellStretch_11
  · have hm := xift c12 hm
    refine lv_iload_n hx hb dX9_tellStretch_4 rfl (lv_at hl 2 rfl) ?_
    obtain rfl := Option.some.inj hm
    exact xiret X hP hS dX9_tellStretch_5
