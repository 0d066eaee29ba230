def fX8_isSignOrNone (x0 : Int32) (M0 : xM) : Option (Int32) := if x0 < (-1) then (some 0) else (if 999 < x0 then (some 0) else (some 1))
theorem fX8_isSignOrNone_s (x0 : Int32) (M0 : xM) : fX8_isSignOrNone x0 M0 = (if x0 < (-1) then (some 0) else (if 999 < x0 then (some 0) else (some 1))) := rfl
set_option maxHeartbeats 4000000 in
set_option maxRecDepth 100000 in
theorem qX8_isSignOrNone (l : Launch) (w : xT) (x0 : Int32) (M0 : xM) (V : Int32) (hm : fX8_isSignOrNone x0 M0 = some V) : xC l yX8_isSignOrNone (Cond.code yX8_isSignOrNone cX8_isSignOrNone 1 (some .boolean)) { frames := 0, cells := 0, slots := 0, locals := 0 } w [.int x0] M0 (some (.int V)) M0 := by
  refine xC.of (by decide) (Nat.le_of_ble_eq_true rfl) ?_
  intro p e s m args below meth c ls X hP hS hl
  have hl : lv_has ls 1 [(0, .int x0)] := hl
  have X : xX p s m args meth c cX8_isSignOrNone 1 (some .boolean) RX8 w := X
  have hx := X.1
  have hb := X.2.1
  have hown := X.2.2.2.2.2.1
  have hts := X.2.2.2.2.2.2.1
  rw [fX8_isSignOrNone_s] at hm
  refine lv_iload_n hx hb dX8_isSignOrNone_0 rfl (lv_at hl 0 rfl) ?_
  refine lv_iconst (v := (-1)) hx hb dX8_isSignOrNone_1 (by decide) ?_
  refine lv_icmp_lt (tgt := 16) hx hb dX8_isSignOrNone_2 (by decide) (fun c1 => ?_) (fun c1 => ?_)
  · have hm := xift c1 hm
    refine lv_iconst (v := 0) hx hb dX8_isSignOrNone_16 (by decide) ?_
    obtain rfl := Option.some.inj hm
    exact xzret X hP hS rfl dX8_isSignOrNone_17
  · have hm := xiff c1 hm
    refine lv_iload_n hx hb dX8_isSignOrNone_5 rfl (lv_at hl 0 rfl) ?_
    refine lv_sipush (v := 999) hx hb dX8_isSignOrNone_6 (by decide) ?_
    refine lv_icmp_gt (tgt := 16) hx hb dX8_isSignOrNone_9 (by decide) (fun c2 => ?_) (fun c2 => ?_)
    · have hm := xift c2 hm
      refine lv_iconst (v := 0) hx hb dX8_isSignOrNone_16 (by decide) ?_
      obtain rfl := Option.some.inj hm
      exact xzret X hP hS rfl dX8_isSignOrNone_17
    · have hm := xiff c2 hm
      refine lv_iconst (v := 1) hx hb dX8_isSignOrNone_12 (by decide) ?_
      refine lv_goto (tgt := 17) hx hb dX8_isSignOrNone_13 (by decide) ?_
      obtain rfl := Option.some.inj hm
      exact xzret X hP hS rfl dX8_isSignOrNone_17
def fX8_oneIfSign (x0 : Int32) (M0 : xM) : Option (Int32) := if x0 = (-1) then (some 0) else (some 1)
theorem fX8_oneIfSign_s (x0 : Int32) (M0 : xM) : fX8_oneIfSign x0 M0 = (if x0 = (-1) then (some 0) else (some 1)) := rfl
set_option maxHeartbeats 4000000 in
set_option maxRecDepth 100000 in
theorem qX8_oneIfSign (l : Launch) (w : xT) (x0 : Int32) (M0 : xM) (V : Int32) (hm : fX8_oneIfSign x0 M0 = some V) : xC l yX8_oneIfSign (Cond.code yX8_oneIfSign cX8_oneIfSign 1 (some .int)) { frames := 0, cells := 0, slots := 0, locals := 0 } w [.int x0] M0 (some (.int V)) M0 := by
  refine xC.of (by decide) (Nat.le_of_ble_eq_true rfl) ?_
  intro p e s m args below meth c ls X hP hS hl
  have hl : lv_has ls 1 [(0, .int x0)] := hl
  have X : xX p s m args meth c cX8_oneIfSign 1 (some .int) RX8 w := X
  have hx := X.1
  have hb := X.2.1
  have hown := X.2.2.2.2.2.1
  have hts := X.2.2.2.2.2.2.1
  rw [fX8_oneIfSign_s] at hm
  refine lv_iload_n hx hb dX8_oneIfSign_0 rfl (lv_at hl 0 rfl) ?_
  refine lv_iconst (v := (-1)) hx hb dX8_oneIfSign_1 (by decide) ?_
  refine lv_icmp_ne (tgt := 9) hx hb dX8_oneIfSign_2 (by decide) (fun c1 => ?_) (fun c1 => ?_)
  · have hm := xiff c1 hm
    refine lv_iconst (v := 1) hx hb dX8_oneIfSign_9 (by decide) ?_
    obtain rfl := Option.some.inj hm
    exact xiret X hP hS dX8_oneIfSign_10
  · have hm := xift c1 hm
    refine lv_iconst (v := 0) hx hb dX8_oneIfSign_5 (by decide) ?_
    refine lv_goto (tgt := 10) hx hb dX8_oneIfSign_6 (by decide) ?_
    obtain rfl := Option.some.inj hm
    exact xiret X hP hS dX8_oneIfSign_10
def fX8_countSigns (x0 : Int32) (x1 : Int32) (x2 : Int32) (x3 : Int32) (M0 : xM) : Option (Int32) := (fX8_isSignOrNone x0 M0).bind fun v1 => if v1 = 0 then (some (-1)) else ((fX8_isSignOrNone x1 M0).bind fun v3 => if v3 = 0 then (some (-1)) else ((fX8_isSignOrNone x2 M0).bind fun v5 => if v5 = 0 then (some (-1)) else ((fX8_isSignOrNone x3 M0).bind fun v7 => if v7 = 0 then (some (-1)) else ((fX8_oneIfSign x0 M0).bind fun v9 => (fX8_oneIfSign x1 M0).bind fun v10 => (fX8_oneIfSign x2 M0).bind fun v11 => (fX8_oneIfSign x3 M0).bind fun v12 => some (((v9 + v10) + v11) + v12)))))
theorem fX8_countSigns_s (x0 : Int32) (x1 : Int32) (x2 : Int32) (x3 : Int32) (M0 : xM) : fX8_countSigns x0 x1 x2 x3 M0 = ((fX8_isSignOrNone x0 M0).bind fun v1 => if v1 = 0 then (some (-1)) else ((fX8_isSignOrNone x1 M0).bind fun v3 => if v3 = 0 then (some (-1)) else ((fX8_isSignOrNone x2 M0).bind fun v5 => if v5 = 0 then (some (-1)) else ((fX8_isSignOrNone x3 M0).bind fun v7 => if v7 = 0 then (some (-1)) else ((fX8_oneIfSign x0 M0).bind fun v9 => (fX8_oneIfSign x1 M0).bind fun v10 => (fX8_oneIfSign x2 M0).bind fun v11 => (fX8_oneIfSign x3 M0).bind fun v12 => some (((v9 + v10) + v11) + v12)))))) := rfl
set_option maxHeartbeats 4000000 in
set_option maxRecDepth 100000 in
theorem qX8_countSigns (l : Launch) (w : xT) (x0 : Int32) (x1 : Int32) (x2 : Int32) (x3 : Int32) (M0 : xM) (V : Int32) (hm : fX8_countSigns x0 x1 x2 x3 M0 = some V) : xC l yX8_countSigns (Cond.code yX8_countSigns cX8_countSigns 4 (some .int)) { frames := 1, cells := 0, slots := 0, locals := 20 } w [.int x0, .int x1, .int x2, .int x3] M0 (some (.int V)) M0 := by
  refine xC.of (by decide) (Nat.le_of_ble_eq_true rfl) ?_
  intro p e s m args below meth c ls X hP hS hl
  have hl : lv_has ls 4 [(0, .int x0), (1, .int x1), (2, .int x2), (3, .int x3)] := hl
  have X : xX p s m args meth c cX8_countSigns 4 (some .int) RX8 w := X
  have hx := X.1
  have hb := X.2.1
  have hown := X.2.2.2.2.2.1
  have hts := X.2.2.2.2.2.2.1
  rw [fX8_countSigns_s] at hm
  refine lv_iload_n hx hb dX8_countSigns_0 rfl (lv_at hl 0 rfl) ?_
  obtain ⟨v1, hg, hm⟩ := xbnd hm
  refine xcallS xm_X8_184 xt_X8_isSignOrNone X hP hS (qX8_isSignOrNone l w x0 M0 v1 hg) ⟨Nat.le_of_ble_eq_true rfl, Nat.le_of_ble_eq_true rfl⟩ ⟨rfl, rfl⟩ hl.1 rfl (rest := []) rfl (Nat.le_of_ble_eq_true rfl) dX8_countSigns_1 ⟨Nat.zero_le _, Nat.zero_le _⟩ (fun H locs hP hS => ?_)
  refine W.eq (g2 := F0 m 4 ls [.int v1]) rfl ?_
  refine lv_if_eq (tgt := 28) hx hb dX8_countSigns_4 (by decide) (fun c2 => ?_) (fun c2 => ?_)
  · have hm := xift c2 hm
    refine lv_iconst (v := (-1)) hx hb dX8_countSigns_28 (by decide) ?_
    obtain rfl := Option.some.inj hm
    exact xiret X hP hS dX8_countSigns_29
  · have hm := xiff c2 hm
    refine lv_iload_n hx hb dX8_countSigns_7 rfl (lv_at hl 1 rfl) ?_
    obtain ⟨v3, hg, hm⟩ := xbnd hm
    refine xcallS xm_X8_184 xt_X8_isSignOrNone X hP hS (qX8_isSignOrNone l w x1 M0 v3 hg) ⟨Nat.le_of_ble_eq_true rfl, Nat.le_of_ble_eq_true rfl⟩ ⟨rfl, rfl⟩ hl.1 rfl (rest := []) rfl (Nat.le_of_ble_eq_true rfl) dX8_countSigns_8 ⟨Nat.zero_le _, Nat.zero_le _⟩ (fun H locs hP hS => ?_)
    refine W.eq (g2 := F0 m 11 ls [.int v3]) rfl ?_
    refine lv_if_eq (tgt := 28) hx hb dX8_countSigns_11 (by decide) (fun c4 => ?_) (fun c4 => ?_)
    · have hm := xift c4 hm
      refine lv_iconst (v := (-1)) hx hb dX8_countSigns_28 (by decide) ?_
      obtain rfl := Option.some.inj hm
      exact xiret X hP hS dX8_countSigns_29
    · have hm := xiff c4 hm
      refine lv_iload_n hx hb dX8_countSigns_14 rfl (lv_at hl 2 rfl) ?_
      obtain ⟨v5, hg, hm⟩ := xbnd hm
      refine xcallS xm_X8_184 xt_X8_isSignOrNone X hP hS (qX8_isSignOrNone l w x2 M0 v5 hg) ⟨Nat.le_of_ble_eq_true rfl, Nat.le_of_ble_eq_true rfl⟩ ⟨rfl, rfl⟩ hl.1 rfl (rest := []) rfl (Nat.le_of_ble_eq_true rfl) dX8_countSigns_15 ⟨Nat.zero_le _, Nat.zero_le _⟩ (fun H locs hP hS => ?_)
      refine W.eq (g2 := F0 m 18 ls [.int v5]) rfl ?_
      refine lv_if_eq (tgt := 28) hx hb dX8_countSigns_18 (by decide) (fun c6 => ?_) (fun c6 => ?_)
      · have hm := xift c6 hm
        refine lv_iconst (v := (-1)) hx hb dX8_countSigns_28 (by decide) ?_
        obtain rfl := Option.some.inj hm
        exact xiret X hP hS dX8_countSigns_29
      · have hm := xiff c6 hm
        refine lv_iload_n hx hb dX8_countSigns_21 rfl (lv_at hl 3 rfl) ?_
        obtain ⟨v7, hg, hm⟩ := xbnd hm
        refine xcallS xm_X8_184 xt_X8_isSignOrNone X hP hS (qX8_isSignOrNone l w x3 M0 v7 hg) ⟨Nat.le_of_ble_eq_true rfl, Nat.le_of_ble_eq_true rfl⟩ ⟨rfl, rfl⟩ hl.1 rfl (rest := []) rfl (Nat.le_of_ble_eq_true rfl) dX8_countSigns_22 ⟨Nat.zero_le _, Nat.zero_le _⟩ (fun H locs hP hS => ?_)
        refine W.eq (g2 := F0 m 25 ls [.int v7]) rfl ?_
        refine lv_if_ne (tgt := 30) hx hb dX8_countSigns_25 (by decide) (fun c8 => ?_) (fun c8 => ?_)
        · have hm := xiff c8 hm
          refine lv_iload_n hx hb dX8_countSigns_30 rfl (lv_at hl 0 rfl) ?_
          obtain ⟨v9, hg, hm⟩ := xbnd hm
          refine xcallS xm_X8_187 xt_X8_oneIfSign X hP hS (qX8_oneIfSign l w x0 M0 v9 hg) ⟨Nat.le_of_ble_eq_true rfl, Nat.le_of_ble_eq_true rfl⟩ ⟨rfl, rfl⟩ hl.1 rfl (rest := []) rfl (Nat.le_of_ble_eq_true rfl) dX8_countSigns_31 ⟨Nat.zero_le _, Nat.zero_le _⟩ (fun H locs hP hS => ?_)
          refine W.eq (g2 := F0 m 34 ls [.int v9]) rfl ?_
          refine lv_iload_n hx hb dX8_countSigns_34 rfl (lv_at hl 1 rfl) ?_
          obtain ⟨v10, hg, hm⟩ := xbnd hm
          refine xcallS xm_X8_187 xt_X8_oneIfSign X hP hS (qX8_oneIfSign l w x1 M0 v10 hg) ⟨Nat.le_of_ble_eq_true rfl, Nat.le_of_ble_eq_true rfl⟩ ⟨rfl, rfl⟩ hl.1 rfl (rest := [.int v9]) rfl (Nat.le_of_ble_eq_true rfl) dX8_countSigns_35 ⟨Nat.zero_le _, Nat.zero_le _⟩ (fun H locs hP hS => ?_)
          refine W.eq (g2 := F0 m 38 ls [.int v10, .int v9]) rfl ?_
          refine lv_iadd hx hb dX8_countSigns_38 ?_
          refine lv_iload_n hx hb dX8_countSigns_39 rfl (lv_at hl 2 rfl) ?_
          obtain ⟨v11, hg, hm⟩ := xbnd hm
          refine xcallS xm_X8_187 xt_X8_oneIfSign X hP hS (qX8_oneIfSign l w x2 M0 v11 hg) ⟨Nat.le_of_ble_eq_true rfl, Nat.le_of_ble_eq_true rfl⟩ ⟨rfl, rfl⟩ hl.1 rfl (rest := [.int (v9 + v10)]) rfl (Nat.le_of_ble_eq_true rfl) dX8_countSigns_40 ⟨Nat.zero_le _, Nat.zero_le _⟩ (fun H locs hP hS => ?_)
          refine W.eq (g2 := F0 m 43 ls [.int v11, .int (v9 + v10)]) rfl ?_
          refine lv_iadd hx hb dX8_countSigns_43 ?_
          refine lv_iload_n hx hb dX8_countSigns_44 rfl (lv_at hl 3 rfl) ?_
          obtain ⟨v12, hg, hm⟩ := xbnd hm
          refine xcallS xm_X8_187 xt_X8_oneIfSign X hP hS (qX8_oneIfSign l w x3 M0 v12 hg) ⟨Nat.le_of_ble_eq_true rfl, Nat.le_of_ble_eq_true rfl⟩ ⟨rfl, rfl⟩ hl.1 rfl (rest := [.int ((v9 + v10) + v11)]) rfl (Nat.le_of_ble_eq_true rfl) dX8_countSigns_45 ⟨Nat.zero_le _, Nat.zero_le _⟩ (fun H locs hP hS => ?_)
          refine W.eq (g2 := F0 m 48 ls [.int v12, .int ((v9 + v10) + v11)]) rfl ?_
          refine lv_iadd hx hb dX8_countSigns_48 ?_
          obtain rfl := Option.some.inj hm
          exact xiret X hP hS dX8_countSigns_49
        · have hm := xift c8 hm
          refine lv_iconst (v := (-1)) hx hb dX8_countSigns_28 (by decide) ?_
          obtain rfl := Option.some.inj hm
          exact xiret X hP hS dX8_countSigns_29
def fX8_isText (x0 : Int32) (M0 : xM) : Option (Int32) := if x0 < 0 then (some 0) else (if 8 ≤ x0 then (some 0) else (some 1))
theorem fX8_isText_s (x0 : Int32) (M0 : xM) : fX8_isText x0 M0 = (if x0 < 0 then (some 0) else (if 8 ≤ x0 then (some 0) else (some 1))) := rfl
set_option maxHeartbeats 4000000 in
set_option maxRecDepth 100000 in
theorem qX8_isText (l : Launch) (w : xT) (x0 : Int32) (M0 : xM) (V : Int32) (hm : fX8_isText x0 M0 = some V) : xC l yX8_isText (Cond.code yX8_isText cX8_isText 1 (some .boolean)) { frames := 0, cells := 0, slots := 0, locals := 0 } w [.int x0] M0 (some (.int V)) M0 := by
  refine xC.of (by decide) (Nat.le_of_ble_eq_true rfl) ?_
  intro p e s m args below meth c ls X hP hS hl
  have hl : lv_has ls 1 [(0, .int x0)] := hl
  have X : xX p s m args meth c cX8_isText 1 (some .boolean) RX8 w := X
  have hx := X.1
  have hb := X.2.1
  have hown := X.2.2.2.2.2.1
  have hts := X.2.2.2.2.2.2.1
  rw [fX8_isText_s] at hm
  refine lv_iload_n hx hb dX8_isText_0 rfl (lv_at hl 0 rfl) ?_
  refine lv_if_lt (tgt := 14) hx hb dX8_isText_1 (by decide) (fun c1 => ?_) (fun c1 => ?_)
  · have hm := xift c1 hm
    refine lv_iconst (v := 0) hx hb dX8_isText_14 (by decide) ?_
    obtain rfl := Option.some.inj hm
    exact xzret X hP hS rfl dX8_isText_15
  · have hm := xiff c1 hm
    refine lv_iload_n hx hb dX8_isText_4 rfl (lv_at hl 0 rfl) ?_
    refine lv_bipush (v := 8) hx hb dX8_isText_5 (by decide) ?_
    refine lv_icmp_ge (tgt := 14) hx hb dX8_isText_7 (by decide) (fun c2 => ?_) (fun c2 => ?_)
    · have hm := xift c2 hm
      refine lv_iconst (v := 0) hx hb dX8_isText_14 (by decide) ?_
      obtain rfl := Option.some.inj hm
      exact xzret X hP hS rfl dX8_isText_15
    · have hm := xiff c2 hm
      refine lv_iconst (v := 1) hx hb dX8_isText_10 (by decide) ?_
      refine lv_goto (tgt := 15) hx hb dX8_isText_11 (by decide) ?_
      obtain rfl := Option.some.inj hm
      exact xzret X hP hS rfl dX8_isText_15
def fX6_endOf_4  : Nat → Int32 → Int32 → Int32 → xM → Option (Int32)
  | 0 => fun _ _ _ _ => none
  | n + 1 => fun x1 x2 x3 M0 => if x1 < x3 then (some x2) else (if xin x3 8 then xlt (x2 + (M0 3 x3.toNatClampNeg)) fun y3 => fX6_endOf_4 n x1 y3 (x3 + 1) M0 else none)
theorem fX6_endOf_4_s  (n : Nat) (x1 : Int32) (x2 : Int32) (x3 : Int32) (M0 : xM) : fX6_endOf_4  (n + 1) x1 x2 x3 M0 = (if x1 < x3 then (some x2) else (if xin x3 8 then xlt (x2 + (M0 3 x3.toNatClampNeg)) fun y3 => fX6_endOf_4 n x1 y3 (x3 + 1) M0 else none)) := rfl
set_option maxHeartbeats 4000000 in
set_option maxRecDepth 100000 in
theorem kX6_endOf_4 {p : Program} {l : Launch} {e : Env} {s : State} {m : MethodId} {args : Array Value} {below : List Frame} {meth : Method} {c : Code} {w : xT} (X : xX p s m args meth c cX6_endOf 4 (some .int) RX6 w) (V : Int32)  : ∀ (n : Nat) (x1 : Int32) (x2 : Int32) (x3 : Int32) (M0 : xM) (H : Heap) (locs : List Loc) (ls : Array Slot), fX6_endOf_4  n x1 x2 x3 M0 = some V → xP w M0 H → xS w s H locs → lv_has ls 4 [(0, .ref (xa w 1)), (1, .int x1), (2, .int x2), (3, .int x3)] → W p l e { frames := 0, cells := 0, slots := 0, locals := 0 } s m args below meth c H locs 0 0 (xQ w (some (.int V)) M0 below args s) (F0 m 4 ls []) := by
  have hx := X.1
  have hb := X.2.1
  have hown := X.2.2.2.2.2.1
  have hts := X.2.2.2.2.2.2.1
  intro n
  induction n with
  | zero => intro x1 x2 x3 M0 H locs ls hm hP hS hl; exact xnon hm
  | succ n ih =>
    intro x1 x2 x3 M0 H locs ls hm hP hS hl
    rw [fX6_endOf_4_s] at hm
    refine lv_iload_n hx hb dX6_endOf_4 rfl (lv_at hl 3 rfl) ?_
    refine lv_iload_n hx hb dX6_endOf_5 rfl (lv_at hl 1 rfl) ?_
    refine lv_icmp_gt (tgt := 24) hx hb dX6_endOf_6 (by decide) (fun c1 => ?_) (fun c1 => ?_)
    · have hm := xift c1 hm
      refine lv_iload_n hx hb dX6_endOf_24 rfl (lv_at hl 2 rfl) ?_
      obtain rfl := Option.some.inj hm
      exact xiret X hP hS dX6_endOf_25
    · have hm := xiff c1 hm
      refine lv_iload_n hx hb dX6_endOf_9 rfl (lv_at hl 2 rfl) ?_
      refine lv_aload_n hx hb dX6_endOf_10 rfl (lv_at hl 0 rfl) ?_
      refine xget xcX6 X hP 1 1 xy1 (by decide) xf_X6_15 rfl dX6_endOf_11 ?_
      refine lv_iload_n hx hb dX6_endOf_14 rfl (lv_at hl 3 rfl) ?_
      obtain ⟨hi2, hm⟩ := xifn hm
      refine xiald X hP 3 xy3 hi2 dX6_endOf_15 ?_
      refine lv_iadd hx hb dX6_endOf_16 ?_
      refine lv_topi (fun y3 ey3 => ?_)
      have hm := xltE hm ey3
      refine lv_istore_n (lv' := [(2, .int y3), (0, .ref (xa w 1)), (1, .int x1), (3, .int x3)]) hx hb dX6_endOf_17 rfl hl (by decide) rfl (fun ls hl => ?_)
      refine lv_iinc (v := x3 + 1) (lv' := [(3, .int (x3 + 1)), (2, .int y3), (0, .ref (xa w 1)), (1, .int x1)]) hx hb dX6_endOf_18 hl (k := 3) rfl rfl (by decide) rfl (fun ls hl => ?_)
      refine lv_goto (tgt := 4) hx hb dX6_endOf_21 (by decide) ?_
      exact ih x1 y3 (x3 + 1) M0 _ _ _ hm hP hS (lv_sub hl [2, 3, 1, 0] rfl)
def fX6_endOf (x1 : Int32) (M0 : xM) : Option (Int32) := fX6_endOf_4 4096 x1 0 0 M0
theorem fX6_endOf_s (x1 : Int32) (M0 : xM) : fX6_endOf x1 M0 = (fX6_endOf_4 4096 x1 0 0 M0) := rfl
set_option maxHeartbeats 4000000 in
set_option maxRecDepth 100000 in
theorem qX6_endOf (l : Launch) (w : xT) (x1 : Int32) (M0 : xM) (V : Int32) (hm : fX6_endOf x1 M0 = some V) : xC l yX6_endOf (Cond.code yX6_endOf cX6_endOf 4 (some .int)) { frames := 0, cells := 0, slots := 0, locals := 0 } w [.ref (xa w 1), .int x1] M0 (some (.int V)) M0 := by
  refine xC.of (by decide) (Nat.le_of_ble_eq_true rfl) ?_
  intro p e s m args below meth c ls X hP hS hl
  have hl : lv_has ls 4 [(0, .ref (xa w 1)), (1, .int x1)] := hl
  have X : xX p s m args meth c cX6_endOf 4 (some .int) RX6 w := X
  have hx := X.1
  have hb := X.2.1
  have hown := X.2.2.2.2.2.1
  have hts := X.2.2.2.2.2.2.1
  rw [fX6_endOf_s] at hm
  refine lv_iconst (v := 0) hx hb dX6_endOf_0 (by decide) ?_
  refine lv_istore_n (lv' := [(2, .int 0), (0, .ref (xa w 1)), (1, .int x1)]) hx hb dX6_endOf_1 rfl hl (by decide) rfl (fun ls hl => ?_)
  refine lv_iconst (v := 0) hx hb dX6_endOf_2 (by decide) ?_
  refine lv_istore_n (lv' := [(3, .int 0), (2, .int 0), (0, .ref (xa w 1)), (1, .int x1)]) hx hb dX6_endOf_3 rfl hl (by decide) rfl (fun ls hl => ?_)
  exact kX6_endOf_4 X V  4096 x1 0 0 M0 _ _ _ hm hP hS (lv_sub hl [2, 3, 1, 0] rfl)
def fX6_append (x1 : Int32) (x2 : Int32) (M : xM) : Option (xM) := if x2 = (-1) then (some M) else (if (M 1 2) < 400 then ((fX6_endOf x1 M).bind fun v3 => if xcin v3 (v3 + 1) ((M 1 2) - v3) 400 400 then xlt (xcp M 2 2 v3 (v3 + 1) ((M 1 2) - v3)) fun M5 => if xin v3 400 then xlt (xs1 M5 2 v3.toNatClampNeg x2) fun M7 => if xin x1 8 then if xin x1 8 then xlt (xs1 M7 3 x1.toNatClampNeg ((M7 3 x1.toNatClampNeg) + 1)) fun M10 => xlt (xs1 M10 1 2 ((M10 1 2) + 1)) fun M11 => some M11 else none else none else none else none) else (some M))
theorem fX6_append_s (x1 : Int32) (x2 : Int32) (M : xM) : fX6_append x1 x2 M = (if x2 = (-1) then (some M) else (if (M 1 2) < 400 then ((fX6_endOf x1 M).bind fun v3 => if xcin v3 (v3 + 1) ((M 1 2) - v3) 400 400 then xlt (xcp M 2 2 v3 (v3 + 1) ((M 1 2) - v3)) fun M5 => if xin v3 400 then xlt (xs1 M5 2 v3.toNatClampNeg x2) fun M7 => if xin x1 8 then if xin x1 8 then xlt (xs1 M7 3 x1.toNatClampNeg ((M7 3 x1.toNatClampNeg) + 1)) fun M10 => xlt (xs1 M10 1 2 ((M10 1 2) + 1)) fun M11 => some M11 else none else none else none else none) else (some M))) := rfl
set_option maxHeartbeats 4000000 in
set_option maxRecDepth 100000 in
theorem qX6_append (l : Launch) (w : xT) (x1 : Int32) (x2 : Int32) (M : xM) (V : xM) (hm : fX6_append x1 x2 M = some V) : xC l yX6_append (Cond.code yX6_append cX6_append 4 none) { frames := 1, cells := 0, slots := 0, locals := 40 } w [.ref (xa w 1), .int x1, .int x2] M none V := by
  refine xC.of (by decide) (Nat.le_of_ble_eq_true rfl) ?_
  intro p e s m args below meth c ls X hP hS hl
  have hl : lv_has ls 4 [(0, .ref (xa w 1)), (1, .int x1), (2, .int x2)] := hl
  have X : xX p s m args meth c cX6_append 4 none RX6 w := X
  have hx := X.1
  have hb := X.2.1
  have hown := X.2.2.2.2.2.1
  have hts := X.2.2.2.2.2.2.1
  rw [fX6_append_s] at hm
  refine lv_iload_n hx hb dX6_append_0 rfl (lv_at hl 2 rfl) ?_
  refine lv_iconst (v := (-1)) hx hb dX6_append_1 (by decide) ?_
  refine lv_icmp_eq (tgt := 15) hx hb dX6_append_2 (by decide) (fun c1 => ?_) (fun c1 => ?_)
  · have hm := xift c1 hm
    obtain rfl := Option.some.inj hm
    exact xvret X hP hS dX6_append_15
  · have hm := xiff c1 hm
    refine lv_aload_n hx hb dX6_append_5 rfl (lv_at hl 0 rfl) ?_
    refine xgeti xcX6 X hP 1 2 xy1 (by decide) xf_X6_18 rfl dX6_append_6 ?_
    refine lv_sipush (v := 400) hx hb dX6_append_9 (by decide) ?_
    refine lv_icmp_lt (tgt := 16) hx hb dX6_append_12 (by decide) (fun c2 => ?_) (fun c2 => ?_)
    · have hm := xift c2 hm
      refine lv_aload_n hx hb dX6_append_16 rfl (lv_at hl 0 rfl) ?_
      refine lv_iload_n hx hb dX6_append_17 rfl (lv_at hl 1 rfl) ?_
      obtain ⟨v3, hg, hm⟩ := xbnd hm
      refine xcallV xm_X6_22 xt_X6_endOf X hP hS (qX6_endOf l w x1 M v3 hg) xy1 rfl ⟨Nat.le_of_ble_eq_true rfl, Nat.le_of_ble_eq_true rfl⟩ ⟨rfl, rfl⟩ hl.1 rfl (rest := []) rfl (Nat.le_of_ble_eq_true rfl) dX6_append_18 ⟨Nat.zero_le _, Nat.zero_le _⟩ (fun H locs hP hS => ?_)
      refine W.eq (g2 := F0 m 21 ls [.int v3]) rfl ?_
      refine lv_istore_n (lv' := [(3, .int v3), (0, .ref (xa w 1)), (1, .int x1), (2, .int x2)]) hx hb dX6_append_21 rfl hl (by decide) rfl (fun ls hl => ?_)
      refine lv_aload_n hx hb dX6_append_22 rfl (lv_at hl 1 rfl) ?_
      refine xget xcX6 X hP 1 0 xy1 (by decide) xf_X6_9 rfl dX6_append_23 ?_
      refine lv_iload_n hx hb dX6_append_26 rfl (lv_at hl 0 rfl) ?_
      refine lv_aload_n hx hb dX6_append_27 rfl (lv_at hl 1 rfl) ?_
      refine xget xcX6 X hP 1 0 xy1 (by decide) xf_X6_9 rfl dX6_append_28 ?_
      refine lv_iload_n hx hb dX6_append_31 rfl (lv_at hl 0 rfl) ?_
      refine lv_iconst (v := 1) hx hb dX6_append_32 (by decide) ?_
      refine lv_iadd hx hb dX6_append_33 ?_
      refine lv_aload_n hx hb dX6_append_34 rfl (lv_at hl 1 rfl) ?_
      refine xgeti xcX6 X hP 1 2 xy1 (by decide) xf_X6_18 rfl dX6_append_35 ?_
      refine lv_iload_n hx hb dX6_append_38 rfl (lv_at hl 0 rfl) ?_
      refine lv_isub hx hb dX6_append_39 ?_
      obtain ⟨hi4, hm⟩ := xifn hm
      refine xcopy xm_X6_26 xac1 xac2 xac3 X hP hS 2 2 xy2 xy2 hi4 hl.1 (by decide) (by decide) dX6_append_40 (fun M5 H locs eM5 hP hS => ?_)
      have hm := xltE hm eM5
      refine lv_aload_n hx hb dX6_append_43 rfl (lv_at hl 1 rfl) ?_
      refine xget xcX6 X hP 1 0 xy1 (by decide) xf_X6_9 rfl dX6_append_44 ?_
      refine lv_iload_n hx hb dX6_append_47 rfl (lv_at hl 0 rfl) ?_
      refine lv_iload_n hx hb dX6_append_48 rfl (lv_at hl 3 rfl) ?_
      obtain ⟨hi6, hm⟩ := xifn hm
      refine xiast X hP hS 2 xy2 hi6 dX6_append_49 (fun M7 H locs eM7 hP hS => ?_)
      have hm := xltE hm eM7
      refine lv_aload_n hx hb dX6_append_50 rfl (lv_at hl 1 rfl) ?_
      refine xget xcX6 X hP 1 1 xy1 (by decide) xf_X6_15 rfl dX6_append_51 ?_
      refine lv_iload_n hx hb dX6_append_54 rfl (lv_at hl 2 rfl) ?_
      refine lv_dup2_11 hx hb dX6_append_55 rfl rfl ?_
      obtain ⟨hi8, hm⟩ := xifn hm
      refine xiald X hP 3 xy3 hi8 dX6_append_56 ?_
      refine lv_iconst (v := 1) hx hb dX6_append_57 (by decide) ?_
      refine lv_iadd hx hb dX6_append_58 ?_
      obtain ⟨hi9, hm⟩ := xifn hm
      refine xiast X hP hS 3 xy3 hi9 dX6_append_59 (fun M10 H locs eM10 hP hS => ?_)
      have hm := xltE hm eM10
      refine lv_aload_n hx hb dX6_append_60 rfl (lv_at hl 1 rfl) ?_
      refine lv_dup hx hb dX6_append_61 rfl ?_
      refine xgeti xcX6 X hP 1 2 xy1 (by decide) xf_X6_18 rfl dX6_append_62 ?_
      refine lv_iconst (v := 1) hx hb dX6_append_65 (by decide) ?_
      refine lv_iadd hx hb dX6_append_66 ?_
      refine xputi xcX6 X hP hS 1 2 xy1 (by decide) xf_X6_18 rfl (tyX6_ok 2 (by decide)) rfl dX6_append_67 (fun M11 H locs eM11 hP hS => ?_)
      have hm := xltE hm eM11
      obtain rfl := Option.some.inj hm
      exact xvret X hP hS dX6_append_70
    · have hm := xiff c2 hm
      obtain rfl := Option.some.inj hm
      exact xvret X hP hS dX6_append_15
def fX8_add (x1 : Int32) (x2 : Int32) (x3 : Int32) (x4 : Int32) (x5 : Int32) (M : xM) : Option (Int32 × xM) := (fX8_countSigns x2 x3 x4 x5 M).bind fun v1 => (fX8_isText x1 M).bind fun v2 => if v2 = 0 then (some ((-1), M)) else (if v1 = (-1) then (some ((-1), M)) else (if ((M 1 2) + v1) ≤ 400 then ((fX6_append x1 x2 M).bind fun v6 => (fX6_append x1 x3 v6).bind fun v7 => (fX6_append x1 x4 v7).bind fun v8 => (fX6_append x1 x5 v8).bind fun v9 => if xin x1 8 then some (v9 3 x1.toNatClampNeg, v9) else none) else (some ((-1), M))))
theorem fX8_add_s (x1 : Int32) (x2 : Int32) (x3 : Int32) (x4 : Int32) (x5 : Int32) (M : xM) : fX8_add x1 x2 x3 x4 x5 M = ((fX8_countSigns x2 x3 x4 x5 M).bind fun v1 => (fX8_isText x1 M).bind fun v2 => if v2 = 0 then (some ((-1), M)) else (if v1 = (-1) then (some ((-1), M)) else (if ((M 1 2) + v1) ≤ 400 then ((fX6_append x1 x2 M).bind fun v6 => (fX6_append x1 x3 v6).bind fun v7 => (fX6_append x1 x4 v7).bind fun v8 => (fX6_append x1 x5 v8).bind fun v9 => if xin x1 8 then some (v9 3 x1.toNatClampNeg, v9) else none) else (some ((-1), M))))) := rfl
set_option maxHeartbeats 4000000 in
set_option maxRecDepth 100000 in
theorem qX8_add (l : Launch) (w : xT) (x1 : Int32) (x2 : Int32) (x3 : Int32) (x4 : Int32) (x5 : Int32) (M : xM) (V : Int32 × xM) (hm : fX8_add x1 x2 x3 x4 x5 M = some V) : xC l yX8_add (Cond.code yX8_add cX8_add 7 (some .int)) { frames := 2, cells := 0, slots := 0, locals := 63 } w [.ref (xa w 0), .int x1, .int x2, .int x3, .int x4, .int x5] M (some (.int V.1)) V.2 := by
  refine xC.of (by decide) (Nat.le_of_ble_eq_true rfl) ?_
  intro p e s m args below meth c ls X hP hS hl
  have hl : lv_has ls 7 [(0, .ref (xa w 0)), (1, .int x1), (2, .int x2), (3, .int x3), (4, .int x4), (5, .int x5)] := hl
  have X : xX p s m args meth c cX8_add 7 (some .int) RX8 w := X
  have hx := X.1
  have hb := X.2.1
  have hown := X.2.2.2.2.2.1
  have hts := X.2.2.2.2.2.2.1
  rw [fX8_add_s] at hm
  refine lv_iload_n hx hb dX8_add_0 rfl (lv_at hl 2 rfl) ?_
  refine lv_iload_n hx hb dX8_add_1 rfl (lv_at hl 3 rfl) ?_
  refine lv_iload hx hb dX8_add_2 (lv_at hl 4 rfl) ?_
  refine lv_iload hx hb dX8_add_4 (lv_at hl 5 rfl) ?_
  obtain ⟨v1, hg, hm⟩ := xbnd hm
  refine xcallS xm_X8_62 xt_X8_countSigns X hP hS (qX8_countSigns l w x2 x3 x4 x5 M v1 hg) ⟨Nat.le_of_ble_eq_true rfl, Nat.le_of_ble_eq_true rfl⟩ ⟨rfl, rfl⟩ hl.1 rfl (rest := []) rfl (Nat.le_of_ble_eq_true rfl) dX8_add_6 ⟨Nat.zero_le _, Nat.zero_le _⟩ (fun H locs hP hS => ?_)
  refine W.eq (g2 := F0 m 9 ls [.int v1]) rfl ?_
  refine lv_istore (lv' := [(6, .int v1), (0, .ref (xa w 0)), (1, .int x1), (2, .int x2), (3, .int x3), (4, .int x4), (5, .int x5)]) hx hb dX8_add_9 hl (by decide) rfl (fun ls hl => ?_)
  refine lv_iload_n hx hb dX8_add_11 rfl (lv_at hl 2 rfl) ?_
  obtain ⟨v2, hg, hm⟩ := xbnd hm
  refine xcallS xm_X8_66 xt_X8_isText X hP hS (qX8_isText l w x1 M v2 hg) ⟨Nat.le_of_ble_eq_true rfl, Nat.le_of_ble_eq_true rfl⟩ ⟨rfl, rfl⟩ hl.1 rfl (rest := []) rfl (Nat.le_of_ble_eq_true rfl) dX8_add_12 ⟨Nat.zero_le _, Nat.zero_le _⟩ (fun H locs hP hS => ?_)
  refine W.eq (g2 := F0 m 15 ls [.int v2]) rfl ?_
  refine lv_if_eq (tgt := 40) hx hb dX8_add_15 (by decide) (fun c3 => ?_) (fun c3 => ?_)
  · have hm := xift c3 hm
    refine lv_iconst (v := (-1)) hx hb dX8_add_40 (by decide) ?_
    obtain rfl := Option.some.inj hm
    exact xiret X hP hS dX8_add_41
  · have hm := xiff c3 hm
    refine lv_iload hx hb dX8_add_18 (lv_at hl 0 rfl) ?_
    refine lv_iconst (v := (-1)) hx hb dX8_add_20 (by decide) ?_
    refine lv_icmp_eq (tgt := 40) hx hb dX8_add_21 (by decide) (fun c4 => ?_) (fun c4 => ?_)
    · have hm := xift c4 hm
      refine lv_iconst (v := (-1)) hx hb dX8_add_40 (by decide) ?_
      obtain rfl := Option.some.inj hm
      exact xiret X hP hS dX8_add_41
    · have hm := xiff c4 hm
      refine lv_aload_n hx hb dX8_add_24 rfl (lv_at hl 1 rfl) ?_
      refine xget xcX8 X hP 0 0 xy0 (by decide) xf_X8_12 rfl dX8_add_25 ?_
      refine xgeti xcX6 X hP 1 2 xy1 (by decide) xf_X8_70 rfl dX8_add_28 ?_
      refine lv_iload hx hb dX8_add_31 (lv_at hl 0 rfl) ?_
      refine lv_iadd hx hb dX8_add_33 ?_
      refine lv_sipush (v := 400) hx hb dX8_add_34 (by decide) ?_
      refine lv_icmp_le (tgt := 42) hx hb dX8_add_37 (by decide) (fun c5 => ?_) (fun c5 => ?_)
      · have hm := xift c5 hm
        refine lv_aload_n hx hb dX8_add_42 rfl (lv_at hl 1 rfl) ?_
        refine xget xcX8 X hP 0 0 xy0 (by decide) xf_X8_12 rfl dX8_add_43 ?_
        refine lv_iload_n hx hb dX8_add_46 rfl (lv_at hl 2 rfl) ?_
        refine lv_iload_n hx hb dX8_add_47 rfl (lv_at hl 3 rfl) ?_
        obtain ⟨v6, hg, hm⟩ := xbnd hm
        refine xcallV xm_X8_74 xt_X6_append X hP hS (qX6_append l w x1 x2 M v6 hg) xy1 rfl ⟨Nat.le_of_ble_eq_true rfl, Nat.le_of_ble_eq_true rfl⟩ ⟨rfl, rfl⟩ hl.1 rfl (rest := []) rfl (Nat.le_of_ble_eq_true rfl) dX8_add_48 ⟨Nat.zero_le _, Nat.zero_le _⟩ (fun H locs hP hS => ?_)
        refine W.eq (g2 := F0 m 51 ls []) rfl ?_
        refine lv_aload_n hx hb dX8_add_51 rfl (lv_at hl 1 rfl) ?_
        refine xget xcX8 X hP 0 0 xy0 (by decide) xf_X8_12 rfl dX8_add_52 ?_
        refine lv_iload_n hx hb dX8_add_55 rfl (lv_at hl 2 rfl) ?_
        refine lv_iload_n hx hb dX8_add_56 rfl (lv_at hl 4 rfl) ?_
        obtain ⟨v7, hg, hm⟩ := xbnd hm
        refine xcallV xm_X8_74 xt_X6_append X hP hS (qX6_append l w x1 x3 v6 v7 hg) xy1 rfl ⟨Nat.le_of_ble_eq_true rfl, Nat.le_of_ble_eq_true rfl⟩ ⟨rfl, rfl⟩ hl.1 rfl (rest := []) rfl (Nat.le_of_ble_eq_true rfl) dX8_add_57 ⟨Nat.zero_le _, Nat.zero_le _⟩ (fun H locs hP hS => ?_)
        refine W.eq (g2 := F0 m 60 ls []) rfl ?_
        refine lv_aload_n hx hb dX8_add_60 rfl (lv_at hl 1 rfl) ?_
        refine xget xcX8 X hP 0 0 xy0 (by decide) xf_X8_12 rfl dX8_add_61 ?_
        refine lv_iload_n hx hb dX8_add_64 rfl (lv_at hl 2 rfl) ?_
        refine lv_iload hx hb dX8_add_65 (lv_at hl 5 rfl) ?_
        obtain ⟨v8, hg, hm⟩ := xbnd hm
        refine xcallV xm_X8_74 xt_X6_append X hP hS (qX6_append l w x1 x4 v7 v8 hg) xy1 rfl ⟨Nat.le_of_ble_eq_true rfl, Nat.le_of_ble_eq_true rfl⟩ ⟨rfl, rfl⟩ hl.1 rfl (rest := []) rfl (Nat.le_of_ble_eq_true rfl) dX8_add_67 ⟨Nat.zero_le _, Nat.zero_le _⟩ (fun H locs hP hS => ?_)
        refine W.eq (g2 := F0 m 70 ls []) rfl ?_
        refine lv_aload_n hx hb dX8_add_70 rfl (lv_at hl 1 rfl) ?_
        refine xget xcX8 X hP 0 0 xy0 (by decide) xf_X8_12 rfl dX8_add_71 ?_
        refine lv_iload_n hx hb dX8_add_74 rfl (lv_at hl 2 rfl) ?_
        refine lv_iload hx hb dX8_add_75 (lv_at hl 6 rfl) ?_
        obtain ⟨v9, hg, hm⟩ := xbnd hm
        refine xcallV xm_X8_74 xt_X6_append X hP hS (qX6_append l w x1 x5 v8 v9 hg) xy1 rfl ⟨Nat.le_of_ble_eq_true rfl, Nat.le_of_ble_eq_true rfl⟩ ⟨rfl, rfl⟩ hl.1 rfl (rest := []) rfl (Nat.le_of_ble_eq_true rfl) dX8_add_77 ⟨Nat.zero_le _, Nat.zero_le _⟩ (fun H locs hP hS => ?_)
        refine W.eq (g2 := F0 m 80 ls []) rfl ?_
        refine lv_aload_n hx hb dX8_add_80 rfl (lv_at hl 1 rfl) ?_
        refine xget xcX8 X hP 0 0 xy0 (by decide) xf_X8_12 rfl dX8_add_81 ?_
        refine xget xcX6 X hP 1 1 xy1 (by decide) xf_X8_78 rfl dX8_add_84 ?_
        refine lv_iload_n hx hb dX8_add_87 rfl (lv_at hl 2 rfl) ?_
        obtain ⟨hi10, hm⟩ := xifn hm
        refine xiald X hP 3 xy3 hi10 dX8_add_88 ?_
        obtain rfl := Option.some.inj hm
        exact xiret X hP hS dX8_add_89
      · have hm := xiff c5 hm
        refine lv_iconst (v := (-1)) hx hb dX8_add_40 (by decide) ?_
        obtain rfl := Option.some.inj hm
        exact xiret X hP hS dX8_add_41
def fX9_isText (x0 : Int32) (M0 : xM) : Option (Int32) := if x0 < 0 then (some 0) else (if 8 ≤ x0 then (some 0) else (some 1))
theorem fX9_isText_s (x0 : Int32) (M0 : xM) : fX9_isText x0 M0 = (if x0 < 0 then (some 0) else (if 8 ≤ x0 then (some 0) else (some 1))) := rfl
set_option maxHeartbeats 4000000 in
set_option maxRecDepth 100000 in
theorem qX9_isText (l : Launch) (w : xT) (x0 : Int32) (M0 : xM) (V : Int32) (hm : fX9_isText x0 M0 = some V) : xC l yX9_isText (Cond.code yX9_isText cX9_isText 1 (some .boolean)) { frames := 0, cells := 0, slots := 0, locals := 0 } w [.int x0] M0 (some (.int V)) M0 := by
  refine xC.of (by decide) (Nat.le_of_ble_eq_true rfl) ?_
  intro p e s m args below meth c ls X hP hS hl
  have hl : lv_has ls 1 [(0, .int x0)] := hl
  have X : xX p s m args meth c cX9_isText 1 (some .boolean) RX9 w := X
  have hx := X.1
  have hb := X.2.1
  have hown := X.2.2.2.2.2.1
  have hts := X.2.2.2.2.2.2.1
  rw [fX9_isText_s] at hm
  refine lv_iload_n hx hb dX9_isText_0 rfl (lv_at hl 0 rfl) ?_
  refine lv_if_lt (tgt := 14) hx hb dX9_isText_1 (by decide) (fun c1 => ?_) (fun c1 => ?_)
  · have hm := xift c1 hm
    refine lv_iconst (v := 0) hx hb dX9_isText_14 (by decide) ?_
    obtain rfl := Option.some.inj hm
    exact xzret X hP hS rfl dX9_isText_15
  · have hm := xiff c1 hm
    refine lv_iload_n hx hb dX9_isText_4 rfl (lv_at hl 0 rfl) ?_
    refine lv_bipush (v := 8) hx hb dX9_isText_5 (by decide) ?_
    refine lv_icmp_ge (tgt := 14) hx hb dX9_isText_7 (by decide) (fun c2 => ?_) (fun c2 => ?_)
    · have hm := xift c2 hm
      refine lv_iconst (v := 0) hx hb dX9_isText_14 (by decide) ?_
      obtain rfl := Option.some.inj hm
      exact xzret X hP hS rfl dX9_isText_15
    · have hm := xiff c2 hm
      refine lv_iconst (v := 1) hx hb dX9_isText_10 (by decide) ?_
      refine lv_goto (tgt := 15) hx hb dX9_isText_11 (by decide) ?_
      obtain rfl := Option.some.inj hm
      exact xzret X hP hS rfl dX9_isText_15
def fX9_isGiven (x0 : Int32) (M0 : xM) : Option (Int32) := if x0 < (-1) then (some 0) else (if 1000 ≤ x0 then (some 0) else (some 1))
theorem fX9_isGiven_s (x0 : Int32) (M0 : xM) : fX9_isGiven x0 M0 = (if x0 < (-1) then (some 0) else (if 1000 ≤ x0 then (some 0) else (some 1))) := rfl
set_option maxHeartbeats 4000000 in
set_option maxRecDepth 100000 in
theorem qX9_isGiven (l : Launch) (w : xT) (x0 : Int32) (M0 : xM) (V : Int32) (hm : fX9_isGiven x0 M0 = some V) : xC l yX9_isGiven (Cond.code yX9_isGiven cX9_isGiven 1 (some .boolean)) { frames := 0, cells := 0, slots := 0, locals := 0 } w [.int x0] M0 (some (.int V)) M0 := by
  refine xC.of (by decide) (Nat.le_of_ble_eq_true rfl) ?_
  intro p e s m args below meth c ls X hP hS hl
  have hl : lv_has ls 1 [(0, .int x0)] := hl
  have X : xX p s m args meth c cX9_isGiven 1 (some .boolean) RX9 w := X
  have hx := X.1
  have hb := X.2.1
  have hown := X.2.2.2.2.2.1
  have hts := X.2.2.2.2.2.2.1
  rw [fX9_isGiven_s] at hm
  refine lv_iload_n hx hb dX9_isGiven_0 rfl (lv_at hl 0 rfl) ?_
  refine lv_iconst (v := (-1)) hx hb dX9_isGiven_1 (by decide) ?_
  refine lv_icmp_lt (tgt := 16) hx hb dX9_isGiven_2 (by decide) (fun c1 => ?_) (fun c1 => ?_)
  · have hm := xift c1 hm
    refine lv_iconst (v := 0) hx hb dX9_isGiven_16 (by decide) ?_
    obtain rfl := Option.some.inj hm
    exact xzret X hP hS rfl dX9_isGiven_17
  · have hm := xiff c1 hm
    refine lv_iload_n hx hb dX9_isGiven_5 rfl (lv_at hl 0 rfl) ?_
    refine lv_sipush (v := 1000) hx hb dX9_isGiven_6 (by decide) ?_
    refine lv_icmp_ge (tgt := 16) hx hb dX9_isGiven_9 (by decide) (fun c2 => ?_) (fun c2 => ?_)
    · have hm := xift c2 hm
      refine lv_iconst (v := 0) hx hb dX9_isGiven_16 (by decide) ?_
      obtain rfl := Option.some.inj hm
      exact xzret X hP hS rfl dX9_isGiven_17
    · have hm := xiff c2 hm
      refine lv_iconst (v := 1) hx hb dX9_isGiven_12 (by decide) ?_
      refine lv_goto (tgt := 17) hx hb dX9_isGiven_13 (by decide) ?_
      obtain rfl := Option.some.inj hm
      exact xzret X hP hS rfl dX9_isGiven_17
def fX9_given_38  (s0 : Int32) (s1 : Int32) (M0 : xM) : Option (Int32) := some (s0 + s1)
theorem fX9_given_38_s  (s0 : Int32) (s1 : Int32) (M0 : xM) : fX9_given_38  s0 s1 M0 = (some (s0 + s1)) := rfl
set_option maxHeartbeats 4000000 in
set_option maxRecDepth 100000 in
theorem kX9_given_38 {p : Program} {l : Launch} {e : Env} {s : State} {m : MethodId} {args : Array Value} {below : List Frame} {meth : Method} {c : Code} {w : xT} (X : xX p s m args meth c cX9_given 4 (some .int) RX9 w) (V : Int32)  : ∀ (s0 : Int32) (s1 : Int32) (M0 : xM) (H : Heap) (locs : List Loc) (ls : Array Slot), fX9_given_38  s0 s1 M0 = some V → xP w M0 H → xS w s H locs → lv_has ls 4 [] → W p l e { frames := 0, cells := 0, slots := 0, locals := 0 } s m args below meth c H locs 0 0 (xQ w (some (.int V)) M0 below args s) (F0 m 38 ls [.int s1, .int s0]) := by
  have hx := X.1
  have hb := X.2.1
  have hown := X.2.2.2.2.2.1
  have hts := X.2.2.2.2.2.2.1
  intro s0 s1 M0 H locs ls hm hP hS hl
  rw [fX9_given_38_s] at hm
  refine lv_iadd hx hb dX9_given_38 ?_
  obtain rfl := Option.some.inj hm
  exact xiret X hP hS dX9_given_39
def fX9_given_28  (x3 : Int32) (s0 : Int32) (s1 : Int32) (M0 : xM) : Option (Int32) := if 0 ≤ x3 then (fX9_given_38 (s0 + s1) 1 M0) else (fX9_given_38 (s0 + s1) 0 M0)
theorem fX9_given_28_s  (x3 : Int32) (s0 : Int32) (s1 : Int32) (M0 : xM) : fX9_given_28  x3 s0 s1 M0 = (if 0 ≤ x3 then (fX9_given_38 (s0 + s1) 1 M0) else (fX9_given_38 (s0 + s1) 0 M0)) := rfl
set_option maxHeartbeats 4000000 in
set_option maxRecDepth 100000 in
theorem kX9_given_28 {p : Program} {l : Launch} {e : Env} {s : State} {m : MethodId} {args : Array Value} {below : List Frame} {meth : Method} {c : Code} {w : xT} (X : xX p s m args meth c cX9_given 4 (some .int) RX9 w) (V : Int32)  : ∀ (x3 : Int32) (s0 : Int32) (s1 : Int32) (M0 : xM) (H : Heap) (locs : List Loc) (ls : Array Slot), fX9_given_28  x3 s0 s1 M0 = some V → xP w M0 H → xS w s H locs → lv_has ls 4 [(3, .int x3)] → W p l e { frames := 0, cells := 0, slots := 0, locals := 0 } s m args below meth c H locs 0 0 (xQ w (some (.int V)) M0 below args s) (F0 m 28 ls [.int s1, .int s0]) := by
  have hx := X.1
  have hb := X.2.1
  have hown := X.2.2.2.2.2.1
  have hts := X.2.2.2.2.2.2.1
  intro x3 s0 s1 M0 H locs ls hm hP hS hl
  rw [fX9_given_28_s] at hm
  refine lv_iadd hx hb dX9_given_28 ?_
  refine lv_iload_n hx hb dX9_given_29 rfl (lv_at hl 0 rfl) ?_
  refine lv_if_ge (tgt := 37) hx hb dX9_given_30 (by decide) (fun c1 => ?_) (fun c1 => ?_)
  · have hm := xift c1 hm
    refine lv_iconst (v := 1) hx hb dX9_given_37 (by decide) ?_
    exact kX9_given_38 X V  (s0 + s1) 1 M0 _ _ _ hm hP hS (lv_sub hl [] rfl)
  · have hm := xiff c1 hm
    refine lv_iconst (v := 0) hx hb dX9_given_33 (by decide) ?_
    refine lv_goto (tgt := 38) hx hb dX9_given_34 (by decide) ?_
    exact kX9_given_38 X V  (s0 + s1) 0 M0 _ _ _ hm hP hS (lv_sub hl [] rfl)
def fX9_given_18  (x2 : Int32) (x3 : Int32) (s0 : Int32) (s1 : Int32) (M0 : xM) : Option (Int32) := if 0 ≤ x2 then (fX9_given_28 x3 (s0 + s1) 1 M0) else (fX9_given_28 x3 (s0 + s1) 0 M0)
theorem fX9_given_18_s  (x2 : Int32) (x3 : Int32) (s0 : Int32) (s1 : Int32) (M0 : xM) : fX9_given_18  x2 x3 s0 s1 M0 = (if 0 ≤ x2 then (fX9_given_28 x3 (s0 + s1) 1 M0) else (fX9_given_28 x3 (s0 + s1) 0 M0)) := rfl
set_option maxHeartbeats 4000000 in
set_option maxRecDepth 100000 in
theorem kX9_given_18 {p : Program} {l : Launch} {e : Env} {s : State} {m : MethodId} {args : Array Value} {below : List Frame} {meth : Method} {c : Code} {w : xT} (X : xX p s m args meth c cX9_given 4 (some .int) RX9 w) (V : Int32)  : ∀ (x2 : Int32) (x3 : Int32) (s0 : Int32) (s1 : Int32) (M0 : xM) (H : Heap) (locs : List Loc) (ls : Array Slot), fX9_given_18  x2 x3 s0 s1 M0 = some V → xP w M0 H → xS w s H locs → lv_has ls 4 [(2, .int x2), (3, .int x3)] → W p l e { frames := 0, cells := 0, slots := 0, locals := 0 } s m args below meth c H locs 0 0 (xQ w (some (.int V)) M0 below args s) (F0 m 18 ls [.int s1, .int s0]) := by
  have hx := X.1
  have hb := X.2.1
  have hown := X.2.2.2.2.2.1
  have hts := X.2.2.2.2.2.2.1
  intro x2 x3 s0 s1 M0 H locs ls hm hP hS hl
  rw [fX9_given_18_s] at hm
  refine lv_iadd hx hb dX9_given_18 ?_
  refine lv_iload_n hx hb dX9_given_19 rfl (lv_at hl 0 rfl) ?_
  refine lv_if_ge (tgt := 27) hx hb dX9_given_20 (by decide) (fun c2 => ?_) (fun c2 => ?_)
  · have hm := xift c2 hm
    refine lv_iconst (v := 1) hx hb dX9_given_27 (by decide) ?_
    exact kX9_given_28 X V  x3 (s0 + s1) 1 M0 _ _ _ hm hP hS (lv_sub hl [1] rfl)
  · have hm := xiff c2 hm
    refine lv_iconst (v := 0) hx hb dX9_given_23 (by decide) ?_
    refine lv_goto (tgt := 28) hx hb dX9_given_24 (by decide) ?_
    exact kX9_given_28 X V  x3 (s0 + s1) 0 M0 _ _ _ hm hP hS (lv_sub hl [1] rfl)
def fX9_given_9  (x1 : Int32) (x2 : Int32) (x3 : Int32) (s0 : Int32) (M0 : xM) : Option (Int32) := if 0 ≤ x1 then (fX9_given_18 x2 x3 s0 1 M0) else (fX9_given_18 x2 x3 s0 0 M0)
theorem fX9_given_9_s  (x1 : Int32) (x2 : Int32) (x3 : Int32) (s0 : Int32) (M0 : xM) : fX9_given_9  x1 x2 x3 s0 M0 = (if 0 ≤ x1 then (fX9_given_18 x2 x3 s0 1 M0) else (fX9_given_18 x2 x3 s0 0 M0)) := rfl
set_option maxHeartbeats 4000000 in
set_option maxRecDepth 100000 in
theorem kX9_given_9 {p : Program} {l : Launch} {e : Env} {s : State} {m : MethodId} {args : Array Value} {below : List Frame} {meth : Method} {c : Code} {w : xT} (X : xX p s m args meth c cX9_given 4 (some .int) RX9 w) (V : Int32)  : ∀ (x1 : Int32) (x2 : Int32) (x3 : Int32) (s0 : Int32) (M0 : xM) (H : Heap) (locs : List Loc) (ls : Array Slot), fX9_given_9  x1 x2 x3 s0 M0 = some V → xP w M0 H → xS w s H locs → lv_has ls 4 [(1, .int x1), (2, .int x2), (3, .int x3)] → W p l e { frames := 0, cells := 0, slots := 0, locals := 0 } s m args below meth c H locs 0 0 (xQ w (some (.int V)) M0 below args s) (F0 m 9 ls [.int s0]) := by
  have hx := X.1
  have hb := X.2.1
  have hown := X.2.2.2.2.2.1
  have hts := X.2.2.2.2.2.2.1
  intro x1 x2 x3 s0 M0 H locs ls hm hP hS hl
  rw [fX9_given_9_s] at hm
  refine lv_iload_n hx hb dX9_given_9 rfl (lv_at hl 0 rfl) ?_
  refine lv_if_ge (tgt := 17) hx hb dX9_given_10 (by decide) (fun c3 => ?_) (fun c3 => ?_)
  · have hm := xift c3 hm
    refine lv_iconst (v := 1) hx hb dX9_given_17 (by decide) ?_
    exact kX9_given_18 X V  x2 x3 s0 1 M0 _ _ _ hm hP hS (lv_sub hl [1, 2] rfl)
  · have hm := xiff c3 hm
    refine lv_iconst (v := 0) hx hb dX9_given_13 (by decide) ?_
    refine lv_goto (tgt := 18) hx hb dX9_given_14 (by decide) ?_
    exact kX9_given_18 X V  x2 x3 s0 0 M0 _ _ _ hm hP hS (lv_sub hl [1, 2] rfl)
def fX9_given (x0 : Int32) (x1 : Int32) (x2 : Int32) (x3 : Int32) (M0 : xM) : Option (Int32) := if 0 ≤ x0 then (fX9_given_9 x1 x2 x3 1 M0) else (fX9_given_9 x1 x2 x3 0 M0)
theorem fX9_given_s (x0 : Int32) (x1 : Int32) (x2 : Int32) (x3 : Int32) (M0 : xM) : fX9_given x0 x1 x2 x3 M0 = (if 0 ≤ x0 then (fX9_given_9 x1 x2 x3 1 M0) else (fX9_given_9 x1 x2 x3 0 M0)) := rfl
set_option maxHeartbeats 4000000 in
set_option maxRecDepth 100000 in
theorem qX9_given (l : Launch) (w : xT) (x0 : Int32) (x1 : Int32) (x2 : Int32) (x3 : Int32) (M0 : xM) (V : Int32) (hm : fX9_given x0 x1 x2 x3 M0 = some V) : xC l yX9_given (Cond.code yX9_given cX9_given 4 (some .int)) { frames := 0, cells := 0, slots := 0, locals := 0 } w [.int x0, .int x1, .int x2, .int x3] M0 (some (.int V)) M0 := by
  refine xC.of (by decide) (Nat.le_of_ble_eq_true rfl) ?_
  intro p e s m args below meth c ls X hP hS hl
  have hl : lv_has ls 4 [(0, .int x0), (1, .int x1), (2, .int x2), (3, .int x3)] := hl
  have X : xX p s m args meth c cX9_given 4 (some .int) RX9 w := X
  have hx := X.1
  have hb := X.2.1
  have hown := X.2.2.2.2.2.1
  have hts := X.2.2.2.2.2.2.1
  rw [fX9_given_s] at hm
  refine lv_iload_n hx hb dX9_given_0 rfl (lv_at hl 0 rfl) ?_
  refine lv_if_ge (tgt := 8) hx hb dX9_given_1 (by decide) (fun c4 => ?_) (fun c4 => ?_)
  · have hm := xift c4 hm
    refine lv_iconst (v := 1) hx hb dX9_given_8 (by decide) ?_
    exact kX9_given_9 X V  x1 x2 x3 1 M0 _ _ _ hm hP hS (lv_sub hl [1, 2, 3] rfl)
  · have hm := xiff c4 hm
    refine lv_iconst (v := 0) hx hb dX9_given_4 (by decide) ?_
    refine lv_goto (tgt := 9) hx hb dX9_given_5 (by decide) ?_
    exact kX9_given_9 X V  x1 x2 x3 0 M0 _ _ _ hm hP hS (lv_sub hl [1, 2, 3] rfl)
def fX9_comeTo (x1 : Int32) (x2 : Int32) (M : xM) : Option (xM) := if x2 < 0 then (some M) else (if xin x1 8 then if xin ((400 * x1) + (M 39 x1.toNatClampNeg)) 3200 then xlt (xs1 M 38 ((400 * x1) + (M 39 x1.toNatClampNeg)).toNatClampNeg x2) fun M4 => if xin x1 8 then if xin x1 8 then xlt (xs1 M4 39 x1.toNatClampNeg ((M4 39 x1.toNatClampNeg) + 1)) fun M7 => xlt (xs1 M7 37 2 ((M7 37 2) + 1)) fun M8 => some M8 else none else none else none else none)
theorem fX9_comeTo_s (x1 : Int32) (x2 : Int32) (M : xM) : fX9_comeTo x1 x2 M = (if x2 < 0 then (some M) else (if xin x1 8 then if xin ((400 * x1) + (M 39 x1.toNatClampNeg)) 3200 then xlt (xs1 M 38 ((400 * x1) + (M 39 x1.toNatClampNeg)).toNatClampNeg x2) fun M4 => if xin x1 8 then if xin x1 8 then xlt (xs1 M4 39 x1.toNatClampNeg ((M4 39 x1.toNatClampNeg) + 1)) fun M7 => xlt (xs1 M7 37 2 ((M7 37 2) + 1)) fun M8 => some M8 else none else none else none else none)) := rfl
set_option maxHeartbeats 4000000 in
set_option maxRecDepth 100000 in
theorem qX9_comeTo (l : Launch) (w : xT) (x1 : Int32) (x2 : Int32) (M : xM) (V : xM) (hm : fX9_comeTo x1 x2 M = some V) : xC l yX9_comeTo (Cond.code yX9_comeTo cX9_comeTo 3 none) { frames := 0, cells := 0, slots := 0, locals := 0 } w [.ref (xa w 37), .int x1, .int x2] M none V := by
  refine xC.of (by decide) (Nat.le_of_ble_eq_true rfl) ?_
  intro p e s m args below meth c ls X hP hS hl
  have hl : lv_has ls 3 [(0, .ref (xa w 37)), (1, .int x1), (2, .int x2)] := hl
  have X : xX p s m args meth c cX9_comeTo 3 none RX9 w := X
  have hx := X.1
  have hb := X.2.1
  have hown := X.2.2.2.2.2.1
  have hts := X.2.2.2.2.2.2.1
  rw [fX9_comeTo_s] at hm
  refine lv_iload_n hx hb dX9_comeTo_0 rfl (lv_at hl 2 rfl) ?_
  refine lv_if_lt (tgt := 42) hx hb dX9_comeTo_1 (by decide) (fun c1 => ?_) (fun c1 => ?_)
  · have hm := xift c1 hm
    obtain rfl := Option.some.inj hm
    exact xvret X hP hS dX9_comeTo_42
  · have hm := xiff c1 hm
    refine lv_aload_n hx hb dX9_comeTo_4 rfl (lv_at hl 0 rfl) ?_
    refine xget xcX9 X hP 37 0 xy37 (by decide) xf_X9_7 rfl dX9_comeTo_5 ?_
    refine lv_sipush (v := 400) hx hb dX9_comeTo_8 (by decide) ?_
    refine lv_iload_n hx hb dX9_comeTo_11 rfl (lv_at hl 1 rfl) ?_
    refine lv_imul hx hb dX9_comeTo_12 ?_
    refine lv_aload_n hx hb dX9_comeTo_13 rfl (lv_at hl 0 rfl) ?_
    refine xget xcX9 X hP 37 1 xy37 (by decide) xf_X9_13 rfl dX9_comeTo_14 ?_
    refine lv_iload_n hx hb dX9_comeTo_17 rfl (lv_at hl 1 rfl) ?_
    obtain ⟨hi2, hm⟩ := xifn hm
    refine xiald X hP 39 xy39 hi2 dX9_comeTo_18 ?_
    refine lv_iadd hx hb dX9_comeTo_19 ?_
    refine lv_iload_n hx hb dX9_comeTo_20 rfl (lv_at hl 2 rfl) ?_
    obtain ⟨hi3, hm⟩ := xifn hm
    refine xiast X hP hS 38 xy38 hi3 dX9_comeTo_21 (fun M4 H locs eM4 hP hS => ?_)
    have hm := xltE hm eM4
    refine lv_aload_n hx hb dX9_comeTo_22 rfl (lv_at hl 0 rfl) ?_
    refine xget xcX9 X hP 37 1 xy37 (by decide) xf_X9_13 rfl dX9_comeTo_23 ?_
    refine lv_iload_n hx hb dX9_comeTo_26 rfl (lv_at hl 1 rfl) ?_
    refine lv_dup2_11 hx hb dX9_comeTo_27 rfl rfl ?_
    obtain ⟨hi5, hm⟩ := xifn hm
    refine xiald X hP 39 xy39 hi5 dX9_comeTo_28 ?_
    refine lv_iconst (v := 1) hx hb dX9_comeTo_29 (by decide) ?_
    refine lv_iadd hx hb dX9_comeTo_30 ?_
    obtain ⟨hi6, hm⟩ := xifn hm
    refine xiast X hP hS 39 xy39 hi6 dX9_comeTo_31 (fun M7 H locs eM7 hP hS => ?_)
    have hm := xltE hm eM7
    refine lv_aload_n hx hb dX9_comeTo_32 rfl (lv_at hl 0 rfl) ?_
    refine lv_dup hx hb dX9_comeTo_33 rfl ?_
    refine xgeti xcX9 X hP 37 2 xy37 (by decide) xf_X9_52 rfl dX9_comeTo_34 ?_
    refine lv_iconst (v := 1) hx hb dX9_comeTo_37 (by decide) ?_
    refine lv_iadd hx hb dX9_comeTo_38 ?_
    refine xputi xcX9 X hP hS 37 2 xy37 (by decide) xf_X9_52 rfl (tyX9_ok 2 (by decide)) rfl dX9_comeTo_39 (fun M8 H locs eM8 hP hS => ?_)
    have hm := xltE hm eM8
    obtain rfl := Option.some.inj hm
    exact xvret X hP hS dX9_comeTo_42
def fX9_add (x1 : Int32) (x2 : Int32) (x3 : Int32) (x4 : Int32) (x5 : Int32) (M : xM) : Option (Int32 × xM) := (fX9_isText x1 M).bind fun v1 => if v1 = 0 then (some ((-1), M)) else ((fX9_isGiven x2 M).bind fun v3 => if v3 = 0 then (some ((-1), M)) else ((fX9_isGiven x3 M).bind fun v5 => if v5 = 0 then (some ((-1), M)) else ((fX9_isGiven x4 M).bind fun v7 => if v7 = 0 then (some ((-1), M)) else ((fX9_isGiven x5 M).bind fun v9 => if v9 = 0 then (some ((-1), M)) else ((fX9_given x2 x3 x4 x5 M).bind fun v11 => if ((M 37 2) + v11) ≤ 400 then ((fX9_comeTo x1 x2 M).bind fun v13 => (fX9_comeTo x1 x3 v13).bind fun v14 => (fX9_comeTo x1 x4 v14).bind fun v15 => (fX9_comeTo x1 x5 v15).bind fun v16 => if xin x1 8 then some (v16 39 x1.toNatClampNeg, v16) else none) else (some ((-1), M)))))))
theorem fX9_add_s (x1 : Int32) (x2 : Int32) (x3 : Int32) (x4 : Int32) (x5 : Int32) (M : xM) : fX9_add x1 x2 x3 x4 x5 M = ((fX9_isText x1 M).bind fun v1 => if v1 = 0 then (some ((-1), M)) else ((fX9_isGiven x2 M).bind fun v3 => if v3 = 0 then (some ((-1), M)) else ((fX9_isGiven x3 M).bind fun v5 => if v5 = 0 then (some ((-1), M)) else ((fX9_isGiven x4 M).bind fun v7 => if v7 = 0 then (some ((-1), M)) else ((fX9_isGiven x5 M).bind fun v9 => if v9 = 0 then (some ((-1), M)) else ((fX9_given x2 x3 x4 x5 M).bind fun v11 => if ((M 37 2) + v11) ≤ 400 then ((fX9_comeTo x1 x2 M).bind fun v13 => (fX9_comeTo x1 x3 v13).bind fun v14 => (fX9_comeTo x1 x4 v14).bind fun v15 => (fX9_comeTo x1 x5 v15).bind fun v16 => if xin x1 8 then some (v16 39 x1.toNatClampNeg, v16) else none) else (some ((-1), M)))))))) := rfl
set_option maxHeartbeats 4000000 in
set_option maxRecDepth 100000 in
theorem qX9_add (l : Launch) (w : xT) (x1 : Int32) (x2 : Int32) (x3 : Int32) (x4 : Int32) (x5 : Int32) (M : xM) (V : Int32 × xM) (hm : fX9_add x1 x2 x3 x4 x5 M = some V) : xC l yX9_add (Cond.code yX9_add cX9_add 6 (some .int)) { frames := 1, cells := 0, slots := 0, locals := 23 } w [.ref (xa w 37), .int x1, .int x2, .int x3, .int x4, .int x5] M (some (.int V.1)) V.2 := by
  refine xC.of (by decide) (Nat.le_of_ble_eq_true rfl) ?_
  intro p e s m args below meth c ls X hP hS hl
  have hl : lv_has ls 6 [(0, .ref (xa w 37)), (1, .int x1), (2, .int x2), (3, .int x3), (4, .int x4), (5, .int x5)] := hl
  have X : xX p s m args meth c cX9_add 6 (some .int) RX9 w := X
  have hx := X.1
  have hb := X.2.1
  have hown := X.2.2.2.2.2.1
  have hts := X.2.2.2.2.2.2.1
  rw [fX9_add_s] at hm
  refine lv_iload_n hx hb dX9_add_0 rfl (lv_at hl 1 rfl) ?_
  obtain ⟨v1, hg, hm⟩ := xbnd hm
  refine xcallS xm_X9_55 xt_X9_isText X hP hS (qX9_isText l w x1 M v1 hg) ⟨Nat.le_of_ble_eq_true rfl, Nat.le_of_ble_eq_true rfl⟩ ⟨rfl, rfl⟩ hl.1 rfl (rest := []) rfl (Nat.le_of_ble_eq_true rfl) dX9_add_1 ⟨Nat.zero_le _, Nat.zero_le _⟩ (fun H locs hP hS => ?_)
  refine W.eq (g2 := F0 m 4 ls [.int v1]) rfl ?_
  refine lv_if_eq (tgt := 57) hx hb dX9_add_4 (by decide) (fun c2 => ?_) (fun c2 => ?_)
  · have hm := xift c2 hm
    refine lv_iconst (v := (-1)) hx hb dX9_add_57 (by decide) ?_
    obtain rfl := Option.some.inj hm
    exact xiret X hP hS dX9_add_58
  · have hm := xiff c2 hm
    refine lv_iload_n hx hb dX9_add_7 rfl (lv_at hl 2 rfl) ?_
    obtain ⟨v3, hg, hm⟩ := xbnd hm
    refine xcallS xm_X9_59 xt_X9_isGiven X hP hS (qX9_isGiven l w x2 M v3 hg) ⟨Nat.le_of_ble_eq_true rfl, Nat.le_of_ble_eq_true rfl⟩ ⟨rfl, rfl⟩ hl.1 rfl (rest := []) rfl (Nat.le_of_ble_eq_true rfl) dX9_add_8 ⟨Nat.zero_le _, Nat.zero_le _⟩ (fun H locs hP hS => ?_)
    refine W.eq (g2 := F0 m 11 ls [.int v3]) rfl ?_
    refine lv_if_eq (tgt := 57) hx hb dX9_add_11 (by decide) (fun c4 => ?_) (fun c4 => ?_)
    · have hm := xift c4 hm
      refine lv_iconst (v := (-1)) hx hb dX9_add_57 (by decide) ?_
      obtain rfl := Option.some.inj hm
      exact xiret X hP hS dX9_add_58
    · have hm := xiff c4 hm
      refine lv_iload_n hx hb dX9_add_14 rfl (lv_at hl 3 rfl) ?_
      obtain ⟨v5, hg, hm⟩ := xbnd hm
      refine xcallS xm_X9_59 xt_X9_isGiven X hP hS (qX9_isGiven l w x3 M v5 hg) ⟨Nat.le_of_ble_eq_true rfl, Nat.le_of_ble_eq_true rfl⟩ ⟨rfl, rfl⟩ hl.1 rfl (rest := []) rfl (Nat.le_of_ble_eq_true rfl) dX9_add_15 ⟨Nat.zero_le _, Nat.zero_le _⟩ (fun H locs hP hS => ?_)
      refine W.eq (g2 := F0 m 18 ls [.int v5]) rfl ?_
      refine lv_if_eq (tgt := 57) hx hb dX9_add_18 (by decide) (fun c6 => ?_) (fun c6 => ?_)
      · have hm := xift c6 hm
        refine lv_iconst (v := (-1)) hx hb dX9_add_57 (by decide) ?_
        obtain rfl := Option.some.inj hm
        exact xiret X hP hS dX9_add_58
      · have hm := xiff c6 hm
        refine lv_iload hx hb dX9_add_21 (lv_at hl 4 rfl) ?_
        obtain ⟨v7, hg, hm⟩ := xbnd hm
        refine xcallS xm_X9_59 xt_X9_isGiven X hP hS (qX9_isGiven l w x4 M v7 hg) ⟨Nat.le_of_ble_eq_true rfl, Nat.le_of_ble_eq_true rfl⟩ ⟨rfl, rfl⟩ hl.1 rfl (rest := []) rfl (Nat.le_of_ble_eq_true rfl) dX9_add_23 ⟨Nat.zero_le _, Nat.zero_le _⟩ (fun H locs hP hS => ?_)
        refine W.eq (g2 := F0 m 26 ls [.int v7]) rfl ?_
        refine lv_if_eq (tgt := 57) hx hb dX9_add_26 (by decide) (fun c8 => ?_) (fun c8 => ?_)
        · have hm := xift c8 hm
          refine lv_iconst (v := (-1)) hx hb dX9_add_57 (by decide) ?_
          obtain rfl := Option.some.inj hm
          exact xiret X hP hS dX9_add_58
        · have hm := xiff c8 hm
          refine lv_iload hx hb dX9_add_29 (lv_at hl 5 rfl) ?_
          obtain ⟨v9, hg, hm⟩ := xbnd hm
          refine xcallS xm_X9_59 xt_X9_isGiven X hP hS (qX9_isGiven l w x5 M v9 hg) ⟨Nat.le_of_ble_eq_true rfl, Nat.le_of_ble_eq_true rfl⟩ ⟨rfl, rfl⟩ hl.1 rfl (rest := []) rfl (Nat.le_of_ble_eq_true rfl) dX9_add_31 ⟨Nat.zero_le _, Nat.zero_le _⟩ (fun H locs hP hS => ?_)
          refine W.eq (g2 := F0 m 34 ls [.int v9]) rfl ?_
          refine lv_if_eq (tgt := 57) hx hb dX9_add_34 (by decide) (fun c10 => ?_) (fun c10 => ?_)
          · have hm := xift c10 hm
            refine lv_iconst (v := (-1)) hx hb dX9_add_57 (by decide) ?_
            obtain rfl := Option.some.inj hm
            exact xiret X hP hS dX9_add_58
          · have hm := xiff c10 hm
            refine lv_aload_n hx hb dX9_add_37 rfl (lv_at hl 0 rfl) ?_
            refine xgeti xcX9 X hP 37 2 xy37 (by decide) xf_X9_52 rfl dX9_add_38 ?_
            refine lv_iload_n hx hb dX9_add_41 rfl (lv_at hl 2 rfl) ?_
            refine lv_iload_n hx hb dX9_add_42 rfl (lv_at hl 3 rfl) ?_
            refine lv_iload hx hb dX9_add_43 (lv_at hl 4 rfl) ?_
            refine lv_iload hx hb dX9_add_45 (lv_at hl 5 rfl) ?_
            obtain ⟨v11, hg, hm⟩ := xbnd hm
            refine xcallS xm_X9_62 xt_X9_given X hP hS (qX9_given l w x2 x3 x4 x5 M v11 hg) ⟨Nat.le_of_ble_eq_true rfl, Nat.le_of_ble_eq_true rfl⟩ ⟨rfl, rfl⟩ hl.1 rfl (rest := [.int (M 37 2)]) rfl (Nat.le_of_ble_eq_true rfl) dX9_add_47 ⟨Nat.zero_le _, Nat.zero_le _⟩ (fun H locs hP hS => ?_)
            refine W.eq (g2 := F0 m 50 ls [.int v11, .int (M 37 2)]) rfl ?_
            refine lv_iadd hx hb dX9_add_50 ?_
            refine lv_sipush (v := 400) hx hb dX9_add_51 (by decide) ?_
            refine lv_icmp_le (tgt := 59) hx hb dX9_add_54 (by decide) (fun c12 => ?_) (fun c12 => ?_)
            · have hm := xift c12 hm
              refine lv_aload_n hx hb dX9_add_59 rfl (lv_at hl 0 rfl) ?_
              refine lv_iload_n hx hb dX9_add_60 rfl (lv_at hl 1 rfl) ?_
              refine lv_iload_n hx hb dX9_add_61 rfl (lv_at hl 2 rfl) ?_
              obtain ⟨v13, hg, hm⟩ := xbnd hm
              refine xcallV xm_X9_66 xt_X9_comeTo X hP hS (qX9_comeTo l w x1 x2 M v13 hg) xy37 rfl ⟨Nat.le_of_ble_eq_true rfl, Nat.le_of_ble_eq_true rfl⟩ ⟨rfl, rfl⟩ hl.1 rfl (rest := []) rfl (Nat.le_of_ble_eq_true rfl) dX9_add_62 ⟨Nat.zero_le _, Nat.zero_le _⟩ (fun H locs hP hS => ?_)
              refine W.eq (g2 := F0 m 65 ls []) rfl ?_
              refine lv_aload_n hx hb dX9_add_65 rfl (lv_at hl 0 rfl) ?_
              refine lv_iload_n hx hb dX9_add_66 rfl (lv_at hl 1 rfl) ?_
              refine lv_iload_n hx hb dX9_add_67 rfl (lv_at hl 3 rfl) ?_
              obtain ⟨v14, hg, hm⟩ := xbnd hm
              refine xcallV xm_X9_66 xt_X9_comeTo X hP hS (qX9_comeTo l w x1 x3 v13 v14 hg) xy37 rfl ⟨Nat.le_of_ble_eq_true rfl, Nat.le_of_ble_eq_true rfl⟩ ⟨rfl, rfl⟩ hl.1 rfl (rest := []) rfl (Nat.le_of_ble_eq_true rfl) dX9_add_68 ⟨Nat.zero_le _, Nat.zero_le _⟩ (fun H locs hP hS => ?_)
              refine W.eq (g2 := F0 m 71 ls []) rfl ?_
              refine lv_aload_n hx hb dX9_add_71 rfl (lv_at hl 0 rfl) ?_
              refine lv_iload_n hx hb dX9_add_72 rfl (lv_at hl 1 rfl) ?_
              refine lv_iload hx hb dX9_add_73 (lv_at hl 4 rfl) ?_
              obtain ⟨v15, hg, hm⟩ := xbnd hm
              refine xcallV xm_X9_66 xt_X9_comeTo X hP hS (qX9_comeTo l w x1 x4 v14 v15 hg) xy37 rfl ⟨Nat.le_of_ble_eq_true rfl, Nat.le_of_ble_eq_true rfl⟩ ⟨rfl, rfl⟩ hl.1 rfl (rest := []) rfl (Nat.le_of_ble_eq_true rfl) dX9_add_75 ⟨Nat.zero_le _, Nat.zero_le _⟩ (fun H locs hP hS => ?_)
              refine W.eq (g2 := F0 m 78 ls []) rfl ?_
              refine lv_aload_n hx hb dX9_add_78 rfl (lv_at hl 0 rfl) ?_
              refine lv_iload_n hx hb dX9_add_79 rfl (lv_at hl 1 rfl) ?_
              refine lv_iload hx hb dX9_add_80 (lv_at hl 5 rfl) ?_
              obtain ⟨v16, hg, hm⟩ := xbnd hm
              refine xcallV xm_X9_66 xt_X9_comeTo X hP hS (qX9_comeTo l w x1 x5 v15 v16 hg) xy37 rfl ⟨Nat.le_of_ble_eq_true rfl, Nat.le_of_ble_eq_true rfl⟩ ⟨rfl, rfl⟩ hl.1 rfl (rest := []) rfl (Nat.le_of_ble_eq_true rfl) dX9_add_82 ⟨Nat.zero_le _, Nat.zero_le _⟩ (fun H locs hP hS => ?_)
              refine W.eq (g2 := F0 m 85 ls []) rfl ?_
              refine lv_aload_n hx hb dX9_add_85 rfl (lv_at hl 0 rfl) ?_
              refine xget xcX9 X hP 37 1 xy37 (by decide) xf_X9_13 rfl dX9_add_86 ?_
              refine lv_iload_n hx hb dX9_add_89 rfl (lv_at hl 1 rfl) ?_
              obtain ⟨hi17, hm⟩ := xifn hm
              refine xiald X hP 39 xy39 hi17 dX9_add_90 ?_
              obtain rfl := Option.some.inj hm
              exact xiret X hP hS dX9_add_91
            · have hm := xiff c12 hm
              refine lv_iconst (v := (-1)) hx hb dX9_add_57 (by decide) ?_
              obtain rfl := Option.some.inj hm
              exact xiret X hP hS dX9_add_58
