def fX1_replace (x1 : Int32) (x2 : Int32) (M : xM) : Option (Int32 × xM) := if xin x1 408 then if xin x1 408 then xlt (xs1 M 36 x1.toNatClampNeg x2) fun M3 => some (M 36 x1.toNatClampNeg, M3) else none else none
theorem fX1_replace_s (x1 : Int32) (x2 : Int32) (M : xM) : fX1_replace x1 x2 M = (if xin x1 408 then if xin x1 408 then xlt (xs1 M 36 x1.toNatClampNeg x2) fun M3 => some (M 36 x1.toNatClampNeg, M3) else none else none) := rfl
set_option maxHeartbeats 4000000 in
set_option maxRecDepth 100000 in
theorem qX1_replace (l : Launch) (w : xT) (x1 : Int32) (x2 : Int32) (M : xM) (V : Int32 × xM) (hm : fX1_replace x1 x2 M = some V) : xC l yX1_replace (Cond.code yX1_replace cX1_replace 4 (some .int)) { frames := 0, cells := 0, slots := 0, locals := 0 } w [.ref (xa w 35), .int x1, .int x2] M (some (.int V.1)) V.2 := by
  refine xC.of (by decide) (Nat.le_of_ble_eq_true rfl) ?_
  intro p e s m args below meth c ls X hP hS hl
  have hl : lv_has ls 4 [(0, .ref (xa w 35)), (1, .int x1), (2, .int x2)] := hl
  have X : xX p s m args meth c cX1_replace 4 (some .int) RX1 w := X
  have hx := X.1
  have hb := X.2.1
  have hown := X.2.2.2.2.2.1
  have hts := X.2.2.2.2.2.2.1
  rw [fX1_replace_s] at hm
  refine lv_aload_n hx hb dX1_replace_0 rfl (lv_at hl 0 rfl) ?_
  refine xget xcX1 X hP 35 0 xy35 (by decide) xf_X1_9 rfl dX1_replace_1 ?_
  refine lv_iload_n hx hb dX1_replace_4 rfl (lv_at hl 1 rfl) ?_
  obtain ⟨hi1, hm⟩ := xifn hm
  refine xiald X hP 36 xy36 hi1 dX1_replace_5 ?_
  refine lv_istore_n (lv' := [(3, .int (M 36 x1.toNatClampNeg)), (0, .ref (xa w 35)), (1, .int x1), (2, .int x2)]) hx hb dX1_replace_6 rfl hl (by decide) rfl (fun ls hl => ?_)
  refine lv_aload_n hx hb dX1_replace_7 rfl (lv_at hl 1 rfl) ?_
  refine xget xcX1 X hP 35 0 xy35 (by decide) xf_X1_9 rfl dX1_replace_8 ?_
  refine lv_iload_n hx hb dX1_replace_11 rfl (lv_at hl 2 rfl) ?_
  refine lv_iload_n hx hb dX1_replace_12 rfl (lv_at hl 3 rfl) ?_
  obtain ⟨hi2, hm⟩ := xifn hm
  refine xiast X hP hS 36 xy36 hi2 dX1_replace_13 (fun M3 H locs eM3 hP hS => ?_)
  have hm := xltE hm eM3
  refine lv_iload_n hx hb dX1_replace_14 rfl (lv_at hl 0 rfl) ?_
  obtain rfl := Option.some.inj hm
  exact xiret X hP hS dX1_replace_15
def fX8_swap (x1 : Int32) (x2 : Int32) (M : xM) : Option (Int32 × xM) := (fX7_has x1 M).bind fun v1 => if v1 = 0 then (some ((-1), M)) else ((fX7_has x2 M).bind fun v3 => if v3 = 0 then (some ((-1), M)) else (if xin x1 408 then (fX1_replace x2 (M 36 x1.toNatClampNeg) M).bind fun v6 => (fX1_replace x1 v6.1 v6.2).bind fun v7 => some (1, v7.2) else none))
theorem fX8_swap_s (x1 : Int32) (x2 : Int32) (M : xM) : fX8_swap x1 x2 M = ((fX7_has x1 M).bind fun v1 => if v1 = 0 then (some ((-1), M)) else ((fX7_has x2 M).bind fun v3 => if v3 = 0 then (some ((-1), M)) else (if xin x1 408 then (fX1_replace x2 (M 36 x1.toNatClampNeg) M).bind fun v6 => (fX1_replace x1 v6.1 v6.2).bind fun v7 => some (1, v7.2) else none))) := rfl
set_option maxHeartbeats 4000000 in
set_option maxRecDepth 100000 in
theorem qX8_swap (l : Launch) (w : xT) (x1 : Int32) (x2 : Int32) (M : xM) (V : Int32 × xM) (hm : fX8_swap x1 x2 M = some V) : xC l yX8_swap (Cond.code yX8_swap cX8_swap 4 (some .int)) { frames := 1, cells := 0, slots := 0, locals := 23 } w [.ref (xa w 0), .int x1, .int x2] M (some (.int V.1)) V.2 := by
  refine xC.of (by decide) (Nat.le_of_ble_eq_true rfl) ?_
  intro p e s m args below meth c ls X hP hS hl
  have hl : lv_has ls 4 [(0, .ref (xa w 0)), (1, .int x1), (2, .int x2)] := hl
  have X : xX p s m args meth c cX8_swap 4 (some .int) RX8 w := X
  have hx := X.1
  have hb := X.2.1
  have hown := X.2.2.2.2.2.1
  have hts := X.2.2.2.2.2.2.1
  rw [fX8_swap_s] at hm
  refine lv_aload_n hx hb dX8_swap_0 rfl (lv_at hl 0 rfl) ?_
  refine xget xcX8 X hP 0 1 xy0 (by decide) xf_X8_19 rfl dX8_swap_1 ?_
  refine lv_iload_n hx hb dX8_swap_4 rfl (lv_at hl 1 rfl) ?_
  obtain ⟨v1, hg, hm⟩ := xbnd hm
  refine xcallV xm_X8_99 xt_X7_has X hP hS (qX7_has l w x1 M v1 hg) xy4 rfl ⟨Nat.le_of_ble_eq_true rfl, Nat.le_of_ble_eq_true rfl⟩ ⟨rfl, rfl⟩ hl.1 rfl (rest := []) rfl (Nat.le_of_ble_eq_true rfl) dX8_swap_5 ⟨Nat.zero_le _, Nat.zero_le _⟩ (fun H locs hP hS => ?_)
  refine W.eq (g2 := F0 m 8 ls [.int v1]) rfl ?_
  refine lv_if_eq (tgt := 22) hx hb dX8_swap_8 (by decide) (fun c2 => ?_) (fun c2 => ?_)
  · have hm := xift c2 hm
    refine lv_iconst (v := (-1)) hx hb dX8_swap_22 (by decide) ?_
    obtain rfl := Option.some.inj hm
    exact xiret X hP hS dX8_swap_23
  · have hm := xiff c2 hm
    refine lv_aload_n hx hb dX8_swap_11 rfl (lv_at hl 0 rfl) ?_
    refine xget xcX8 X hP 0 1 xy0 (by decide) xf_X8_19 rfl dX8_swap_12 ?_
    refine lv_iload_n hx hb dX8_swap_15 rfl (lv_at hl 2 rfl) ?_
    obtain ⟨v3, hg, hm⟩ := xbnd hm
    refine xcallV xm_X8_99 xt_X7_has X hP hS (qX7_has l w x2 M v3 hg) xy4 rfl ⟨Nat.le_of_ble_eq_true rfl, Nat.le_of_ble_eq_true rfl⟩ ⟨rfl, rfl⟩ hl.1 rfl (rest := []) rfl (Nat.le_of_ble_eq_true rfl) dX8_swap_16 ⟨Nat.zero_le _, Nat.zero_le _⟩ (fun H locs hP hS => ?_)
    refine W.eq (g2 := F0 m 19 ls [.int v3]) rfl ?_
    refine lv_if_ne (tgt := 24) hx hb dX8_swap_19 (by decide) (fun c4 => ?_) (fun c4 => ?_)
    · have hm := xiff c4 hm
      refine lv_aload_n hx hb dX8_swap_24 rfl (lv_at hl 0 rfl) ?_
      refine xget xcX8 X hP 0 6 xy0 (by decide) xf_X8_58 rfl dX8_swap_25 ?_
      refine lv_iload_n hx hb dX8_swap_28 rfl (lv_at hl 2 rfl) ?_
      refine lv_aload_n hx hb dX8_swap_29 rfl (lv_at hl 0 rfl) ?_
      refine xget xcX8 X hP 0 6 xy0 (by decide) xf_X8_58 rfl dX8_swap_30 ?_
      refine xget xcX1 X hP 35 0 xy35 (by decide) xf_X8_174 rfl dX8_swap_33 ?_
      refine lv_iload_n hx hb dX8_swap_36 rfl (lv_at hl 1 rfl) ?_
      obtain ⟨hi5, hm⟩ := xifn hm
      refine xiald X hP 36 xy36 hi5 dX8_swap_37 ?_
      obtain ⟨v6, hg, hm⟩ := xbnd hm
      refine xcallV xm_X8_177 xt_X1_replace X hP hS (qX1_replace l w x2 (M 36 x1.toNatClampNeg) M v6 hg) xy35 rfl ⟨Nat.le_of_ble_eq_true rfl, Nat.le_of_ble_eq_true rfl⟩ ⟨rfl, rfl⟩ hl.1 rfl (rest := []) rfl (Nat.le_of_ble_eq_true rfl) dX8_swap_38 ⟨Nat.zero_le _, Nat.zero_le _⟩ (fun H locs hP hS => ?_)
      refine W.eq (g2 := F0 m 41 ls [.int v6.1]) rfl ?_
      refine lv_istore_n (lv' := [(3, .int v6.1), (0, .ref (xa w 0)), (1, .int x1), (2, .int x2)]) hx hb dX8_swap_41 rfl hl (by decide) rfl (fun ls hl => ?_)
      refine lv_aload_n hx hb dX8_swap_42 rfl (lv_at hl 1 rfl) ?_
      refine xget xcX8 X hP 0 6 xy0 (by decide) xf_X8_58 rfl dX8_swap_43 ?_
      refine lv_iload_n hx hb dX8_swap_46 rfl (lv_at hl 2 rfl) ?_
      refine lv_iload_n hx hb dX8_swap_47 rfl (lv_at hl 0 rfl) ?_
      obtain ⟨v7, hg, hm⟩ := xbnd hm
      refine xcallV xm_X8_177 xt_X1_replace X hP hS (qX1_replace l w x1 v6.1 v6.2 v7 hg) xy35 rfl ⟨Nat.le_of_ble_eq_true rfl, Nat.le_of_ble_eq_true rfl⟩ ⟨rfl, rfl⟩ hl.1 rfl (rest := []) rfl (Nat.le_of_ble_eq_true rfl) dX8_swap_48 ⟨Nat.zero_le _, Nat.zero_le _⟩ (fun H locs hP hS => ?_)
      refine W.eq (g2 := F0 m 51 ls [.int v7.1]) rfl ?_
      refine lv_pop hx hb dX8_swap_51 rfl ?_
      refine lv_iconst (v := 1) hx hb dX8_swap_52 (by decide) ?_
      obtain rfl := Option.some.inj hm
      exact xiret X hP hS dX8_swap_53
    · have hm := xift c4 hm
      refine lv_iconst (v := (-1)) hx hb dX8_swap_22 (by decide) ?_
      obtain rfl := Option.some.inj hm
      exact xiret X hP hS dX8_swap_23
def fX9_swap (x1 : Int32) (x2 : Int32) (M : xM) : Option (Int32 × xM) := (fX9_isPlace x1 M).bind fun v1 => if v1 = 0 then (some ((-1), M)) else ((fX9_isPlace x2 M).bind fun v3 => if v3 = 0 then (some ((-1), M)) else (if xin x1 408 then if xin x2 408 then if xin x1 408 then xlt (xs1 M 46 x1.toNatClampNeg (M 46 x2.toNatClampNeg)) fun M8 => if xin x2 408 then xlt (xs1 M8 46 x2.toNatClampNeg (M 46 x1.toNatClampNeg)) fun M10 => some (1, M10) else none else none else none else none))
theorem fX9_swap_s (x1 : Int32) (x2 : Int32) (M : xM) : fX9_swap x1 x2 M = ((fX9_isPlace x1 M).bind fun v1 => if v1 = 0 then (some ((-1), M)) else ((fX9_isPlace x2 M).bind fun v3 => if v3 = 0 then (some ((-1), M)) else (if xin x1 408 then if xin x2 408 then if xin x1 408 then xlt (xs1 M 46 x1.toNatClampNeg (M 46 x2.toNatClampNeg)) fun M8 => if xin x2 408 then xlt (xs1 M8 46 x2.toNatClampNeg (M 46 x1.toNatClampNeg)) fun M10 => some (1, M10) else none else none else none else none))) := rfl
set_option maxHeartbeats 4000000 in
set_option maxRecDepth 100000 in
theorem qX9_swap (l : Launch) (w : xT) (x1 : Int32) (x2 : Int32) (M : xM) (V : Int32 × xM) (hm : fX9_swap x1 x2 M = some V) : xC l yX9_swap (Cond.code yX9_swap cX9_swap 4 (some .int)) { frames := 1, cells := 0, slots := 0, locals := 21 } w [.ref (xa w 37), .int x1, .int x2] M (some (.int V.1)) V.2 := by
  refine xC.of (by decide) (Nat.le_of_ble_eq_true rfl) ?_
  intro p e s m args below meth c ls X hP hS hl
  have hl : lv_has ls 4 [(0, .ref (xa w 37)), (1, .int x1), (2, .int x2)] := hl
  have X : xX p s m args meth c cX9_swap 4 (some .int) RX9 w := X
  have hx := X.1
  have hb := X.2.1
  have hown := X.2.2.2.2.2.1
  have hts := X.2.2.2.2.2.2.1
  rw [fX9_swap_s] at hm
  refine lv_aload_n hx hb dX9_swap_0 rfl (lv_at hl 0 rfl) ?_
  refine lv_iload_n hx hb dX9_swap_1 rfl (lv_at hl 1 rfl) ?_
  obtain ⟨v1, hg, hm⟩ := xbnd hm
  refine xcallV xm_X9_78 xt_X9_isPlace X hP hS (qX9_isPlace l w x1 M v1 hg) xy37 rfl ⟨Nat.le_of_ble_eq_true rfl, Nat.le_of_ble_eq_true rfl⟩ ⟨rfl, rfl⟩ hl.1 rfl (rest := []) rfl (Nat.le_of_ble_eq_true rfl) dX9_swap_2 ⟨Nat.zero_le _, Nat.zero_le _⟩ (fun H locs hP hS => ?_)
  refine W.eq (g2 := F0 m 5 ls [.int v1]) rfl ?_
  refine lv_if_eq (tgt := 16) hx hb dX9_swap_5 (by decide) (fun c2 => ?_) (fun c2 => ?_)
  · have hm := xift c2 hm
    refine lv_iconst (v := (-1)) hx hb dX9_swap_16 (by decide) ?_
    obtain rfl := Option.some.inj hm
    exact xiret X hP hS dX9_swap_17
  · have hm := xiff c2 hm
    refine lv_aload_n hx hb dX9_swap_8 rfl (lv_at hl 0 rfl) ?_
    refine lv_iload_n hx hb dX9_swap_9 rfl (lv_at hl 2 rfl) ?_
    obtain ⟨v3, hg, hm⟩ := xbnd hm
    refine xcallV xm_X9_78 xt_X9_isPlace X hP hS (qX9_isPlace l w x2 M v3 hg) xy37 rfl ⟨Nat.le_of_ble_eq_true rfl, Nat.le_of_ble_eq_true rfl⟩ ⟨rfl, rfl⟩ hl.1 rfl (rest := []) rfl (Nat.le_of_ble_eq_true rfl) dX9_swap_10 ⟨Nat.zero_le _, Nat.zero_le _⟩ (fun H locs hP hS => ?_)
    refine W.eq (g2 := F0 m 13 ls [.int v3]) rfl ?_
    refine lv_if_ne (tgt := 18) hx hb dX9_swap_13 (by decide) (fun c4 => ?_) (fun c4 => ?_)
    · have hm := xiff c4 hm
      refine lv_aload_n hx hb dX9_swap_18 rfl (lv_at hl 0 rfl) ?_
      refine xget xcX9 X hP 37 10 xy37 (by decide) xf_X9_35 rfl dX9_swap_19 ?_
      refine lv_iload_n hx hb dX9_swap_22 rfl (lv_at hl 1 rfl) ?_
      obtain ⟨hi5, hm⟩ := xifn hm
      refine xiald X hP 46 xy46 hi5 dX9_swap_23 ?_
      refine lv_istore_n (lv' := [(3, .int (M 46 x1.toNatClampNeg)), (0, .ref (xa w 37)), (1, .int x1), (2, .int x2)]) hx hb dX9_swap_24 rfl hl (by decide) rfl (fun ls hl => ?_)
      refine lv_aload_n hx hb dX9_swap_25 rfl (lv_at hl 1 rfl) ?_
      refine xget xcX9 X hP 37 10 xy37 (by decide) xf_X9_35 rfl dX9_swap_26 ?_
      refine lv_iload_n hx hb dX9_swap_29 rfl (lv_at hl 2 rfl) ?_
      refine lv_aload_n hx hb dX9_swap_30 rfl (lv_at hl 1 rfl) ?_
      refine xget xcX9 X hP 37 10 xy37 (by decide) xf_X9_35 rfl dX9_swap_31 ?_
      refine lv_iload_n hx hb dX9_swap_34 rfl (lv_at hl 3 rfl) ?_
      obtain ⟨hi6, hm⟩ := xifn hm
      refine xiald X hP 46 xy46 hi6 dX9_swap_35 ?_
      obtain ⟨hi7, hm⟩ := xifn hm
      refine xiast X hP hS 46 xy46 hi7 dX9_swap_36 (fun M8 H locs eM8 hP hS => ?_)
      have hm := xltE hm eM8
      refine lv_aload_n hx hb dX9_swap_37 rfl (lv_at hl 1 rfl) ?_
      refine xget xcX9 X hP 37 10 xy37 (by decide) xf_X9_35 rfl dX9_swap_38 ?_
      refine lv_iload_n hx hb dX9_swap_41 rfl (lv_at hl 3 rfl) ?_
      refine lv_iload_n hx hb dX9_swap_42 rfl (lv_at hl 0 rfl) ?_
      obtain ⟨hi9, hm⟩ := xifn hm
      refine xiast X hP hS 46 xy46 hi9 dX9_swap_43 (fun M10 H locs eM10 hP hS => ?_)
      have hm := xltE hm eM10
      refine lv_iconst (v := 1) hx hb dX9_swap_44 (by decide) ?_
      obtain rfl := Option.some.inj hm
      exact xiret X hP hS dX9_swap_45
    · have hm := xift c4 hm
      refine lv_iconst (v := (-1)) hx hb dX9_swap_16 (by decide) ?_
      obtain rfl := Option.some.inj hm
      exact xiret X hP hS dX9_swap_17
def fX8_tell (x1 : Int32) (x2 : Int32) (M : xM) : Option (Int32 × xM) := (fX7_has x1 M).bind fun v1 => if v1 = 0 then (some ((-1), M)) else ((fX1_replace x1 x2 M).bind fun v3 => some (v3.1, v3.2))
theorem fX8_tell_s (x1 : Int32) (x2 : Int32) (M : xM) : fX8_tell x1 x2 M = ((fX7_has x1 M).bind fun v1 => if v1 = 0 then (some ((-1), M)) else ((fX1_replace x1 x2 M).bind fun v3 => some (v3.1, v3.2))) := rfl
set_option maxHeartbeats 4000000 in
set_option maxRecDepth 100000 in
theorem qX8_tell (l : Launch) (w : xT) (x1 : Int32) (x2 : Int32) (M : xM) (V : Int32 × xM) (hm : fX8_tell x1 x2 M = some V) : xC l yX8_tell (Cond.code yX8_tell cX8_tell 3 (some .int)) { frames := 1, cells := 0, slots := 0, locals := 23 } w [.ref (xa w 0), .int x1, .int x2] M (some (.int V.1)) V.2 := by
  refine xC.of (by decide) (Nat.le_of_ble_eq_true rfl) ?_
  intro p e s m args below meth c ls X hP hS hl
  have hl : lv_has ls 3 [(0, .ref (xa w 0)), (1, .int x1), (2, .int x2)] := hl
  have X : xX p s m args meth c cX8_tell 3 (some .int) RX8 w := X
  have hx := X.1
  have hb := X.2.1
  have hown := X.2.2.2.2.2.1
  have hts := X.2.2.2.2.2.2.1
  rw [fX8_tell_s] at hm
  refine lv_aload_n hx hb dX8_tell_0 rfl (lv_at hl 0 rfl) ?_
  refine xget xcX8 X hP 0 1 xy0 (by decide) xf_X8_19 rfl dX8_tell_1 ?_
  refine lv_iload_n hx hb dX8_tell_4 rfl (lv_at hl 1 rfl) ?_
  obtain ⟨v1, hg, hm⟩ := xbnd hm
  refine xcallV xm_X8_99 xt_X7_has X hP hS (qX7_has l w x1 M v1 hg) xy4 rfl ⟨Nat.le_of_ble_eq_true rfl, Nat.le_of_ble_eq_true rfl⟩ ⟨rfl, rfl⟩ hl.1 rfl (rest := []) rfl (Nat.le_of_ble_eq_true rfl) dX8_tell_5 ⟨Nat.zero_le _, Nat.zero_le _⟩ (fun H locs hP hS => ?_)
  refine W.eq (g2 := F0 m 8 ls [.int v1]) rfl ?_
  refine lv_if_eq (tgt := 23) hx hb dX8_tell_8 (by decide) (fun c2 => ?_) (fun c2 => ?_)
  · have hm := xift c2 hm
    refine lv_iconst (v := (-1)) hx hb dX8_tell_23 (by decide) ?_
    obtain rfl := Option.some.inj hm
    exact xiret X hP hS dX8_tell_24
  · have hm := xiff c2 hm
    refine lv_aload_n hx hb dX8_tell_11 rfl (lv_at hl 0 rfl) ?_
    refine xget xcX8 X hP 0 6 xy0 (by decide) xf_X8_58 rfl dX8_tell_12 ?_
    refine lv_iload_n hx hb dX8_tell_15 rfl (lv_at hl 1 rfl) ?_
    refine lv_iload_n hx hb dX8_tell_16 rfl (lv_at hl 2 rfl) ?_
    obtain ⟨v3, hg, hm⟩ := xbnd hm
    refine xcallV xm_X8_177 xt_X1_replace X hP hS (qX1_replace l w x1 x2 M v3 hg) xy35 rfl ⟨Nat.le_of_ble_eq_true rfl, Nat.le_of_ble_eq_true rfl⟩ ⟨rfl, rfl⟩ hl.1 rfl (rest := []) rfl (Nat.le_of_ble_eq_true rfl) dX8_tell_17 ⟨Nat.zero_le _, Nat.zero_le _⟩ (fun H locs hP hS => ?_)
    refine W.eq (g2 := F0 m 20 ls [.int v3.1]) rfl ?_
    refine lv_goto (tgt := 24) hx hb dX8_tell_20 (by decide) ?_
    obtain rfl := Option.some.inj hm
    exact xiret X hP hS dX8_tell_24
def fX9_tell (x1 : Int32) (x2 : Int32) (M : xM) : Option (Int32 × xM) := (fX9_isPlace x1 M).bind fun v1 => if v1 = 0 then (some ((-1), M)) else (if xin x1 408 then if xin x1 408 then xlt (xs1 M 46 x1.toNatClampNeg x2) fun M5 => some (M 46 x1.toNatClampNeg, M5) else none else none)
theorem fX9_tell_s (x1 : Int32) (x2 : Int32) (M : xM) : fX9_tell x1 x2 M = ((fX9_isPlace x1 M).bind fun v1 => if v1 = 0 then (some ((-1), M)) else (if xin x1 408 then if xin x1 408 then xlt (xs1 M 46 x1.toNatClampNeg x2) fun M5 => some (M 46 x1.toNatClampNeg, M5) else none else none)) := rfl
set_option maxHeartbeats 4000000 in
set_option maxRecDepth 100000 in
theorem qX9_tell (l : Launch) (w : xT) (x1 : Int32) (x2 : Int32) (M : xM) (V : Int32 × xM) (hm : fX9_tell x1 x2 M = some V) : xC l yX9_tell (Cond.code yX9_tell cX9_tell 4 (some .int)) { frames := 1, cells := 0, slots := 0, locals := 21 } w [.ref (xa w 37), .int x1, .int x2] M (some (.int V.1)) V.2 := by
  refine xC.of (by decide) (Nat.le_of_ble_eq_true rfl) ?_
  intro p e s m args below meth c ls X hP hS hl
  have hl : lv_has ls 4 [(0, .ref (xa w 37)), (1, .int x1), (2, .int x2)] := hl
  have X : xX p s m args meth c cX9_tell 4 (some .int) RX9 w := X
  have hx := X.1
  have hb := X.2.1
  have hown := X.2.2.2.2.2.1
  have hts := X.2.2.2.2.2.2.1
  rw [fX9_tell_s] at hm
  refine lv_aload_n hx hb dX9_tell_0 rfl (lv_at hl 0 rfl) ?_
  refine lv_iload_n hx hb dX9_tell_1 rfl (lv_at hl 1 rfl) ?_
  obtain ⟨v1, hg, hm⟩ := xbnd hm
  refine xcallV xm_X9_78 xt_X9_isPlace X hP hS (qX9_isPlace l w x1 M v1 hg) xy37 rfl ⟨Nat.le_of_ble_eq_true rfl, Nat.le_of_ble_eq_true rfl⟩ ⟨rfl, rfl⟩ hl.1 rfl (rest := []) rfl (Nat.le_of_ble_eq_true rfl) dX9_tell_2 ⟨Nat.zero_le _, Nat.zero_le _⟩ (fun H locs hP hS => ?_)
  refine W.eq (g2 := F0 m 5 ls [.int v1]) rfl ?_
  refine lv_if_ne (tgt := 10) hx hb dX9_tell_5 (by decide) (fun c2 => ?_) (fun c2 => ?_)
  · have hm := xiff c2 hm
    refine lv_aload_n hx hb dX9_tell_10 rfl (lv_at hl 0 rfl) ?_
    refine xget xcX9 X hP 37 10 xy37 (by decide) xf_X9_35 rfl dX9_tell_11 ?_
    refine lv_iload_n hx hb dX9_tell_14 rfl (lv_at hl 1 rfl) ?_
    obtain ⟨hi3, hm⟩ := xifn hm
    refine xiald X hP 46 xy46 hi3 dX9_tell_15 ?_
    refine lv_istore_n (lv' := [(3, .int (M 46 x1.toNatClampNeg)), (0, .ref (xa w 37)), (1, .int x1), (2, .int x2)]) hx hb dX9_tell_16 rfl hl (by decide) rfl (fun ls hl => ?_)
    refine lv_aload_n hx hb dX9_tell_17 rfl (lv_at hl 1 rfl) ?_
    refine xget xcX9 X hP 37 10 xy37 (by decide) xf_X9_35 rfl dX9_tell_18 ?_
    refine lv_iload_n hx hb dX9_tell_21 rfl (lv_at hl 2 rfl) ?_
    refine lv_iload_n hx hb dX9_tell_22 rfl (lv_at hl 3 rfl) ?_
    obtain ⟨hi4, hm⟩ := xifn hm
    refine xiast X hP hS 46 xy46 hi4 dX9_tell_23 (fun M5 H locs eM5 hP hS => ?_)
    have hm := xltE hm eM5
    refine lv_iload_n hx hb dX9_tell_24 rfl (lv_at hl 0 rfl) ?_
    obtain rfl := Option.some.inj hm
    exact xiret X hP hS dX9_tell_25
  · have hm := xift c2 hm
    refine lv_iconst (v := (-1)) hx hb dX9_tell_8 (by decide) ?_
    obtain rfl := Option.some.inj hm
    exact xiret X hP hS dX9_tell_9
def fX1_firstWrong_64   (M0 : xM) : Option (Int32) := some (M0 4 4)
theorem fX1_firstWrong_64_s   (M0 : xM) : fX1_firstWrong_64  M0 = (some (M0 4 4)) := rfl
set_option maxHeartbeats 4000000 in
set_option maxRecDepth 100000 in
theorem kX1_firstWrong_64 {p : Program} {l : Launch} {e : Env} {s : State} {m : MethodId} {args : Array Value} {below : List Frame} {meth : Method} {c : Code} {w : xT} (X : xX p s m args meth c cX1_firstWrong 4 (some .int) RX1 w) (V : Int32)  : ∀  (M0 : xM) (H : Heap) (locs : List Loc) (ls : Array Slot), fX1_firstWrong_64  M0 = some V → xP w M0 H → xS w s H locs → lv_has ls 4 [(0, .ref (xa w 35))] → W p l e { frames := 1, cells := 0, slots := 0, locals := 21 } s m args below meth c H locs 0 0 (xQ w (some (.int V)) M0 below args s) (F0 m 64 ls []) := by
  have hx := X.1
  have hb := X.2.1
  have hown := X.2.2.2.2.2.1
  have hts := X.2.2.2.2.2.2.1
  intro M0 H locs ls hm hP hS hl
  rw [fX1_firstWrong_64_s] at hm
  refine lv_aload_n hx hb dX1_firstWrong_64 rfl (lv_at hl 0 rfl) ?_
  refine xget xcX1 X hP 35 1 xy35 (by decide) xf_X1_15 rfl dX1_firstWrong_65 ?_
  refine xgeti xcX7 X hP 4 4 xy4 (by decide) xf_X1_28 rfl dX1_firstWrong_68 ?_
  obtain rfl := Option.some.inj hm
  exact xiret X hP hS dX1_firstWrong_71
def fX1_firstWrong_4  : Nat → Int32 → Int32 → xM → Option (Int32)
  | 0 => fun _ _ _ => none
  | n + 1 => fun x1 x2 M0 => if (M0 4 4) ≤ x2 then (fX1_firstWrong_64  M0) else (if xin x2 408 then (fX7_has (M0 36 x2.toNatClampNeg) M0).bind fun v3 => if v3 = 0 then (some x2) else (if xin (M0 36 x2.toNatClampNeg) 408 then if x1 < (M0 11 (M0 36 x2.toNatClampNeg).toNatClampNeg) then (if xin (M0 36 x2.toNatClampNeg) 408 then xlt (M0 11 (M0 36 x2.toNatClampNeg).toNatClampNeg) fun y8 => fX1_firstWrong_4 n y8 (x2 + 1) M0 else none) else (some x2) else none) else none)
theorem fX1_firstWrong_4_s  (n : Nat) (x1 : Int32) (x2 : Int32) (M0 : xM) : fX1_firstWrong_4  (n + 1) x1 x2 M0 = (if (M0 4 4) ≤ x2 then (fX1_firstWrong_64  M0) else (if xin x2 408 then (fX7_has (M0 36 x2.toNatClampNeg) M0).bind fun v3 => if v3 = 0 then (some x2) else (if xin (M0 36 x2.toNatClampNeg) 408 then if x1 < (M0 11 (M0 36 x2.toNatClampNeg).toNatClampNeg) then (if xin (M0 36 x2.toNatClampNeg) 408 then xlt (M0 11 (M0 36 x2.toNatClampNeg).toNatClampNeg) fun y8 => fX1_firstWrong_4 n y8 (x2 + 1) M0 else none) else (some x2) else none) else none)) := rfl
set_option maxHeartbeats 4000000 in
set_option maxRecDepth 100000 in
theorem kX1_firstWrong_4 {p : Program} {l : Launch} {e : Env} {s : State} {m : MethodId} {args : Array Value} {below : List Frame} {meth : Method} {c : Code} {w : xT} (X : xX p s m args meth c cX1_firstWrong 4 (some .int) RX1 w) (V : Int32)  : ∀ (n : Nat) (x1 : Int32) (x2 : Int32) (M0 : xM) (H : Heap) (locs : List Loc) (ls : Array Slot), fX1_firstWrong_4  n x1 x2 M0 = some V → xP w M0 H → xS w s H locs → lv_has ls 4 [(0, .ref (xa w 35)), (1, .int x1), (2, .int x2)] → W p l e { frames := 1, cells := 0, slots := 0, locals := 21 } s m args below meth c H locs 0 0 (xQ w (some (.int V)) M0 below args s) (F0 m 4 ls []) := by
  have hx := X.1
  have hb := X.2.1
  have hown := X.2.2.2.2.2.1
  have hts := X.2.2.2.2.2.2.1
  intro n
  induction n with
  | zero => intro x1 x2 M0 H locs ls hm hP hS hl; exact xnon hm
  | succ n ih =>
    intro x1 x2 M0 H locs ls hm hP hS hl
    rw [fX1_firstWrong_4_s] at hm
    refine lv_iload_n hx hb dX1_firstWrong_4 rfl (lv_at hl 2 rfl) ?_
    refine lv_aload_n hx hb dX1_firstWrong_5 rfl (lv_at hl 0 rfl) ?_
    refine xget xcX1 X hP 35 1 xy35 (by decide) xf_X1_15 rfl dX1_firstWrong_6 ?_
    refine xgeti xcX7 X hP 4 4 xy4 (by decide) xf_X1_28 rfl dX1_firstWrong_9 ?_
    refine lv_icmp_ge (tgt := 64) hx hb dX1_firstWrong_12 (by decide) (fun c1 => ?_) (fun c1 => ?_)
    · have hm := xift c1 hm
      exact kX1_firstWrong_64 X V  M0 _ _ _ hm hP hS (lv_sub hl [0] rfl)
    · have hm := xiff c1 hm
      refine lv_aload_n hx hb dX1_firstWrong_15 rfl (lv_at hl 0 rfl) ?_
      refine xget xcX1 X hP 35 0 xy35 (by decide) xf_X1_9 rfl dX1_firstWrong_16 ?_
      refine lv_iload_n hx hb dX1_firstWrong_19 rfl (lv_at hl 2 rfl) ?_
      obtain ⟨hi2, hm⟩ := xifn hm
      refine xiald X hP 36 xy36 hi2 dX1_firstWrong_20 ?_
      refine lv_istore_n (lv' := [(3, .int (M0 36 x2.toNatClampNeg)), (0, .ref (xa w 35)), (1, .int x1), (2, .int x2)]) hx hb dX1_firstWrong_21 rfl hl (by decide) rfl (fun ls hl => ?_)
      refine lv_aload_n hx hb dX1_firstWrong_22 rfl (lv_at hl 1 rfl) ?_
      refine xget xcX1 X hP 35 1 xy35 (by decide) xf_X1_15 rfl dX1_firstWrong_23 ?_
      refine lv_iload_n hx hb dX1_firstWrong_26 rfl (lv_at hl 0 rfl) ?_
      obtain ⟨v3, hg, hm⟩ := xbnd hm
      refine xcallV xm_X1_40 xt_X7_has X hP hS (qX7_has l w (M0 36 x2.toNatClampNeg) M0 v3 hg) xy4 rfl ⟨Nat.le_of_ble_eq_true rfl, Nat.le_of_ble_eq_true rfl⟩ ⟨rfl, rfl⟩ hl.1 rfl (rest := []) rfl (Nat.le_of_ble_eq_true rfl) dX1_firstWrong_27 ⟨Nat.zero_le _, Nat.zero_le _⟩ (fun H locs hP hS => ?_)
      refine W.eq (g2 := F0 m 30 ls [.int v3]) rfl ?_
      refine lv_if_eq (tgt := 46) hx hb dX1_firstWrong_30 (by decide) (fun c4 => ?_) (fun c4 => ?_)
      · have hm := xift c4 hm
        refine lv_iload_n hx hb dX1_firstWrong_46 rfl (lv_at hl 3 rfl) ?_
        obtain rfl := Option.some.inj hm
        exact xiret X hP hS dX1_firstWrong_47
      · have hm := xiff c4 hm
        refine lv_aload_n hx hb dX1_firstWrong_33 rfl (lv_at hl 1 rfl) ?_
        refine xget xcX1 X hP 35 2 xy35 (by decide) xf_X1_19 rfl dX1_firstWrong_34 ?_
        refine xget xcX3 X hP 9 1 xy9 (by decide) xf_X1_44 rfl dX1_firstWrong_37 ?_
        refine lv_iload_n hx hb dX1_firstWrong_40 rfl (lv_at hl 0 rfl) ?_
        obtain ⟨hi5, hm⟩ := xifn hm
        refine xiald X hP 11 xy11 hi5 dX1_firstWrong_41 ?_
        refine lv_iload_n hx hb dX1_firstWrong_42 rfl (lv_at hl 2 rfl) ?_
        refine lv_icmp_gt (tgt := 48) hx hb dX1_firstWrong_43 (by decide) (fun c6 => ?_) (fun c6 => ?_)
        · have hm := xift c6 hm
          refine lv_aload_n hx hb dX1_firstWrong_48 rfl (lv_at hl 1 rfl) ?_
          refine xget xcX1 X hP 35 2 xy35 (by decide) xf_X1_19 rfl dX1_firstWrong_49 ?_
          refine xget xcX3 X hP 9 1 xy9 (by decide) xf_X1_44 rfl dX1_firstWrong_52 ?_
          refine lv_iload_n hx hb dX1_firstWrong_55 rfl (lv_at hl 0 rfl) ?_
          obtain ⟨hi7, hm⟩ := xifn hm
          refine xiald X hP 11 xy11 hi7 dX1_firstWrong_56 ?_
          refine lv_topi (fun y8 ey8 => ?_)
          have hm := xltE hm ey8
          refine lv_istore_n (lv' := [(1, .int y8), (3, .int (M0 36 x2.toNatClampNeg)), (0, .ref (xa w 35)), (2, .int x2)]) hx hb dX1_firstWrong_57 rfl hl (by decide) rfl (fun ls hl => ?_)
          refine lv_iinc (v := x2 + 1) (lv' := [(2, .int (x2 + 1)), (1, .int y8), (3, .int (M0 36 x2.toNatClampNeg)), (0, .ref (xa w 35))]) hx hb dX1_firstWrong_58 hl (k := 3) rfl rfl (by decide) rfl (fun ls hl => ?_)
          refine lv_goto (tgt := 4) hx hb dX1_firstWrong_61 (by decide) ?_
          exact ih y8 (x2 + 1) M0 _ _ _ hm hP hS (lv_sub hl [3, 1, 0] rfl)
        · have hm := xiff c6 hm
          refine lv_iload_n hx hb dX1_firstWrong_46 rfl (lv_at hl 3 rfl) ?_
          obtain rfl := Option.some.inj hm
          exact xiret X hP hS dX1_firstWrong_47
def fX1_firstWrong  (M0 : xM) : Option (Int32) := fX1_firstWrong_4 4096 (-1) 0 M0
theorem fX1_firstWrong_s  (M0 : xM) : fX1_firstWrong M0 = (fX1_firstWrong_4 4096 (-1) 0 M0) := rfl
set_option maxHeartbeats 4000000 in
set_option maxRecDepth 100000 in
theorem qX1_firstWrong (l : Launch) (w : xT)  (M0 : xM) (V : Int32) (hm : fX1_firstWrong M0 = some V) : xC l yX1_firstWrong (Cond.code yX1_firstWrong cX1_firstWrong 4 (some .int)) { frames := 1, cells := 0, slots := 0, locals := 21 } w [.ref (xa w 35)] M0 (some (.int V)) M0 := by
  refine xC.of (by decide) (Nat.le_of_ble_eq_true rfl) ?_
  intro p e s m args below meth c ls X hP hS hl
  have hl : lv_has ls 4 [(0, .ref (xa w 35))] := hl
  have X : xX p s m args meth c cX1_firstWrong 4 (some .int) RX1 w := X
  have hx := X.1
  have hb := X.2.1
  have hown := X.2.2.2.2.2.1
  have hts := X.2.2.2.2.2.2.1
  rw [fX1_firstWrong_s] at hm
  refine lv_iconst (v := (-1)) hx hb dX1_firstWrong_0 (by decide) ?_
  refine lv_istore_n (lv' := [(1, .int (-1)), (0, .ref (xa w 35))]) hx hb dX1_firstWrong_1 rfl hl (by decide) rfl (fun ls hl => ?_)
  refine lv_iconst (v := 0) hx hb dX1_firstWrong_2 (by decide) ?_
  refine lv_istore_n (lv' := [(2, .int 0), (1, .int (-1)), (0, .ref (xa w 35))]) hx hb dX1_firstWrong_3 rfl hl (by decide) rfl (fun ls hl => ?_)
  exact kX1_firstWrong_4 X V  4096 (-1) 0 M0 _ _ _ hm hP hS (lv_sub hl [2, 1, 0] rfl)
def fX8_judge  (M0 : xM) : Option (Int32) := (fX1_firstWrong  M0).bind fun v1 => some v1
theorem fX8_judge_s  (M0 : xM) : fX8_judge M0 = ((fX1_firstWrong  M0).bind fun v1 => some v1) := rfl
set_option maxHeartbeats 4000000 in
set_option maxRecDepth 100000 in
theorem qX8_judge (l : Launch) (w : xT)  (M0 : xM) (V : Int32) (hm : fX8_judge M0 = some V) : xC l yX8_judge (Cond.code yX8_judge cX8_judge 1 (some .int)) { frames := 2, cells := 0, slots := 0, locals := 44 } w [.ref (xa w 0)] M0 (some (.int V)) M0 := by
  refine xC.of (by decide) (Nat.le_of_ble_eq_true rfl) ?_
  intro p e s m args below meth c ls X hP hS hl
  have hl : lv_has ls 1 [(0, .ref (xa w 0))] := hl
  have X : xX p s m args meth c cX8_judge 1 (some .int) RX8 w := X
  have hx := X.1
  have hb := X.2.1
  have hown := X.2.2.2.2.2.1
  have hts := X.2.2.2.2.2.2.1
  rw [fX8_judge_s] at hm
  refine lv_aload_n hx hb dX8_judge_0 rfl (lv_at hl 0 rfl) ?_
  refine xget xcX8 X hP 0 6 xy0 (by decide) xf_X8_58 rfl dX8_judge_1 ?_
  obtain ⟨v1, hg, hm⟩ := xbnd hm
  refine xcallV xm_X8_180 xt_X1_firstWrong X hP hS (qX1_firstWrong l w  M0 v1 hg) xy35 rfl ⟨Nat.le_of_ble_eq_true rfl, Nat.le_of_ble_eq_true rfl⟩ ⟨rfl, rfl⟩ hl.1 rfl (rest := []) rfl (Nat.le_of_ble_eq_true rfl) dX8_judge_4 ⟨Nat.zero_le _, Nat.zero_le _⟩ (fun H locs hP hS => ?_)
  refine W.eq (g2 := F0 m 7 ls [.int v1]) rfl ?_
  obtain rfl := Option.some.inj hm
  exact xiret X hP hS dX8_judge_7
def fX9_judge_98   (M : xM) : Option (Int32 × xM) := some (M 37 6, M)
theorem fX9_judge_98_s   (M : xM) : fX9_judge_98  M = (some (M 37 6, M)) := rfl
set_option maxHeartbeats 4000000 in
set_option maxRecDepth 100000 in
theorem kX9_judge_98 {p : Program} {l : Launch} {e : Env} {s : State} {m : MethodId} {args : Array Value} {below : List Frame} {meth : Method} {c : Code} {w : xT} (X : xX p s m args meth c cX9_judge 3 (some .int) RX9 w) (V : Int32 × xM)  : ∀  (M : xM) (H : Heap) (locs : List Loc) (ls : Array Slot), fX9_judge_98  M = some V → xP w M H → xS w s H locs → lv_has ls 3 [(0, .ref (xa w 37))] → W p l e { frames := 1, cells := 0, slots := 0, locals := 21 } s m args below meth c H locs 0 0 (xQ w (some (.int V.1)) V.2 below args s) (F0 m 98 ls []) := by
  have hx := X.1
  have hb := X.2.1
  have hown := X.2.2.2.2.2.1
  have hts := X.2.2.2.2.2.2.1
  intro M H locs ls hm hP hS hl
  rw [fX9_judge_98_s] at hm
  refine lv_aload_n hx hb dX9_judge_98 rfl (lv_at hl 0 rfl) ?_
  refine xgeti xcX9 X hP 37 6 xy37 (by decide) xf_X9_48 rfl dX9_judge_99 ?_
  obtain rfl := Option.some.inj hm
  exact xiret X hP hS dX9_judge_102
def fX9_judge_85 (k25 : Int32 → xM → Option (Int32 × xM)) (x1 : Int32) (x2 : Int32) (M : xM) : Option (Int32 × xM) := if xin x2 408 then xlt (xs1 M 49 x2.toNatClampNeg (vp_nar .boolean 1)) fun M2 => k25 (x1 + 1) M2 else none
theorem fX9_judge_85_s (k25 : Int32 → xM → Option (Int32 × xM)) (x1 : Int32) (x2 : Int32) (M : xM) : fX9_judge_85 k25 x1 x2 M = (if xin x2 408 then xlt (xs1 M 49 x2.toNatClampNeg (vp_nar .boolean 1)) fun M2 => k25 (x1 + 1) M2 else none) := rfl
set_option maxHeartbeats 4000000 in
set_option maxRecDepth 100000 in
theorem kX9_judge_85 {p : Program} {l : Launch} {e : Env} {s : State} {m : MethodId} {args : Array Value} {below : List Frame} {meth : Method} {c : Code} {w : xT} (X : xX p s m args meth c cX9_judge 3 (some .int) RX9 w) (V : Int32 × xM) (k25 : Int32 → xM → Option (Int32 × xM)) (hk25 : ∀ (x1 : Int32) (M : xM) (H : Heap) (locs : List Loc) (ls : Array Slot), k25 x1 M = some V → xP w M H → xS w s H locs → lv_has ls 3 [(0, .ref (xa w 37)), (1, .int x1)] → W p l e { frames := 1, cells := 0, slots := 0, locals := 21 } s m args below meth c H locs 0 0 (xQ w (some (.int V.1)) V.2 below args s) (F0 m 25 ls [])) : ∀ (x1 : Int32) (x2 : Int32) (M : xM) (H : Heap) (locs : List Loc) (ls : Array Slot), fX9_judge_85 k25 x1 x2 M = some V → xP w M H → xS w s H locs → lv_has ls 3 [(0, .ref (xa w 37)), (1, .int x1), (2, .int x2)] → W p l e { frames := 1, cells := 0, slots := 0, locals := 21 } s m args below meth c H locs 0 0 (xQ w (some (.int V.1)) V.2 below args s) (F0 m 85 ls []) := by
  have hx := X.1
  have hb := X.2.1
  have hown := X.2.2.2.2.2.1
  have hts := X.2.2.2.2.2.2.1
  intro x1 x2 M H locs ls hm hP hS hl
  rw [fX9_judge_85_s] at hm
  refine lv_aload_n hx hb dX9_judge_85 rfl (lv_at hl 0 rfl) ?_
  refine xget xcX9 X hP 37 14 xy37 (by decide) xf_X9_44 rfl dX9_judge_86 ?_
  refine lv_iload_n hx hb dX9_judge_89 rfl (lv_at hl 2 rfl) ?_
  refine lv_iconst (v := 1) hx hb dX9_judge_90 (by decide) ?_
  obtain ⟨hi1, hm⟩ := xifn hm
  refine xzast X hP hS 49 xy49 hi1 dX9_judge_91 (fun M2 H locs eM2 hP hS => ?_)
  have hm := xltE hm eM2
  refine lv_iinc (v := x1 + 1) (lv' := [(1, .int (x1 + 1)), (0, .ref (xa w 37)), (2, .int x2)]) hx hb dX9_judge_92 hl (k := 1) rfl rfl (by decide) rfl (fun ls hl => ?_)
  refine lv_goto (tgt := 25) hx hb dX9_judge_95 (by decide) ?_
  exact hk25 (x1 + 1) M2 _ _ _ hm hP hS (lv_sub hl [1, 0] rfl)
def fX9_judge_25  : Nat → Int32 → xM → Option (Int32 × xM)
  | 0 => fun _ _ => none
  | n + 1 => fun x1 M => if (M 37 6) ≤ x1 then (fX9_judge_98  M) else (if xin x1 408 then (fX9_isPlace (M 46 x1.toNatClampNeg) M).bind fun v5 => if v5 = 0 then (some (x1, M)) else (if xin (M 46 x1.toNatClampNeg) 408 then if (M 49 (M 46 x1.toNatClampNeg).toNatClampNeg) = 0 then (if x1 ≤ 0 then (fX9_judge_85 (fX9_judge_25 n) x1 (M 46 x1.toNatClampNeg) M) else (if xin (x1 - 1) 408 then if xin (M 46 (x1 - 1).toNatClampNeg) 408 then if xin (M 46 x1.toNatClampNeg) 408 then if (M 45 (M 46 (x1 - 1).toNatClampNeg).toNatClampNeg) ≤ (M 45 (M 46 x1.toNatClampNeg).toNatClampNeg) then (fX9_judge_85 (fX9_judge_25 n) x1 (M 46 x1.toNatClampNeg) M) else (some (x1, M)) else none else none else none)) else (some (x1, M)) else none) else none)
theorem fX9_judge_25_s  (n : Nat) (x1 : Int32) (M : xM) : fX9_judge_25  (n + 1) x1 M = (if (M 37 6) ≤ x1 then (fX9_judge_98  M) else (if xin x1 408 then (fX9_isPlace (M 46 x1.toNatClampNeg) M).bind fun v5 => if v5 = 0 then (some (x1, M)) else (if xin (M 46 x1.toNatClampNeg) 408 then if (M 49 (M 46 x1.toNatClampNeg).toNatClampNeg) = 0 then (if x1 ≤ 0 then (fX9_judge_85 (fX9_judge_25 n) x1 (M 46 x1.toNatClampNeg) M) else (if xin (x1 - 1) 408 then if xin (M 46 (x1 - 1).toNatClampNeg) 408 then if xin (M 46 x1.toNatClampNeg) 408 then if (M 45 (M 46 (x1 - 1).toNatClampNeg).toNatClampNeg) ≤ (M 45 (M 46 x1.toNatClampNeg).toNatClampNeg) then (fX9_judge_85 (fX9_judge_25 n) x1 (M 46 x1.toNatClampNeg) M) else (some (x1, M)) else none else none else none)) else (some (x1, M)) else none) else none)) := rfl
set_option maxHeartbeats 4000000 in
set_option maxRecDepth 100000 in
theorem kX9_judge_25 {p : Program} {l : Launch} {e : Env} {s : State} {m : MethodId} {args : Array Value} {below : List Frame} {meth : Method} {c : Code} {w : xT} (X : xX p s m args meth c cX9_judge 3 (some .int) RX9 w) (V : Int32 × xM)  : ∀ (n : Nat) (x1 : Int32) (M : xM) (H : Heap) (locs : List Loc) (ls : Array Slot), fX9_judge_25  n x1 M = some V → xP w M H → xS w s H locs → lv_has ls 3 [(0, .ref (xa w 37)), (1, .int x1)] → W p l e { frames := 1, cells := 0, slots := 0, locals := 21 } s m args below meth c H locs 0 0 (xQ w (some (.int V.1)) V.2 below args s) (F0 m 25 ls []) := by
  have hx := X.1
  have hb := X.2.1
  have hown := X.2.2.2.2.2.1
  have hts := X.2.2.2.2.2.2.1
  intro n
  induction n with
  | zero => intro x1 M H locs ls hm hP hS hl; exact xnon hm
  | succ n ih =>
    intro x1 M H locs ls hm hP hS hl
    rw [fX9_judge_25_s] at hm
    refine lv_iload_n hx hb dX9_judge_25 rfl (lv_at hl 1 rfl) ?_
    refine lv_aload_n hx hb dX9_judge_26 rfl (lv_at hl 0 rfl) ?_
    refine xgeti xcX9 X hP 37 6 xy37 (by decide) xf_X9_48 rfl dX9_judge_27 ?_
    refine lv_icmp_ge (tgt := 98) hx hb dX9_judge_30 (by decide) (fun c3 => ?_) (fun c3 => ?_)
    · have hm := xift c3 hm
      exact kX9_judge_98 X V  M _ _ _ hm hP hS (lv_sub hl [0] rfl)
    · have hm := xiff c3 hm
      refine lv_aload_n hx hb dX9_judge_33 rfl (lv_at hl 0 rfl) ?_
      refine xget xcX9 X hP 37 10 xy37 (by decide) xf_X9_35 rfl dX9_judge_34 ?_
      refine lv_iload_n hx hb dX9_judge_37 rfl (lv_at hl 1 rfl) ?_
      obtain ⟨hi4, hm⟩ := xifn hm
      refine xiald X hP 46 xy46 hi4 dX9_judge_38 ?_
      refine lv_istore_n (lv' := [(2, .int (M 46 x1.toNatClampNeg)), (0, .ref (xa w 37)), (1, .int x1)]) hx hb dX9_judge_39 rfl hl (by decide) rfl (fun ls hl => ?_)
      refine lv_aload_n hx hb dX9_judge_40 rfl (lv_at hl 1 rfl) ?_
      refine lv_iload_n hx hb dX9_judge_41 rfl (lv_at hl 0 rfl) ?_
      obtain ⟨v5, hg, hm⟩ := xbnd hm
      refine xcallV xm_X9_78 xt_X9_isPlace X hP hS (qX9_isPlace l w (M 46 x1.toNatClampNeg) M v5 hg) xy37 rfl ⟨Nat.le_of_ble_eq_true rfl, Nat.le_of_ble_eq_true rfl⟩ ⟨rfl, rfl⟩ hl.1 rfl (rest := []) rfl (Nat.le_of_ble_eq_true rfl) dX9_judge_42 ⟨Nat.zero_le _, Nat.zero_le _⟩ (fun H locs hP hS => ?_)
      refine W.eq (g2 := F0 m 45 ls [.int v5]) rfl ?_
      refine lv_if_eq (tgt := 83) hx hb dX9_judge_45 (by decide) (fun c6 => ?_) (fun c6 => ?_)
      · have hm := xift c6 hm
        refine lv_iload_n hx hb dX9_judge_83 rfl (lv_at hl 2 rfl) ?_
        obtain rfl := Option.some.inj hm
        exact xiret X hP hS dX9_judge_84
      · have hm := xiff c6 hm
        refine lv_aload_n hx hb dX9_judge_48 rfl (lv_at hl 1 rfl) ?_
        refine xget xcX9 X hP 37 14 xy37 (by decide) xf_X9_44 rfl dX9_judge_49 ?_
        refine lv_iload_n hx hb dX9_judge_52 rfl (lv_at hl 0 rfl) ?_
        obtain ⟨hi7, hm⟩ := xifn hm
        refine xzald X hP 49 xy49 hi7 dX9_judge_53 ?_
        refine lv_if_ne (tgt := 83) hx hb dX9_judge_54 (by decide) (fun c8 => ?_) (fun c8 => ?_)
        · have hm := xiff c8 hm
          refine lv_iload_n hx hb dX9_judge_83 rfl (lv_at hl 2 rfl) ?_
          obtain rfl := Option.some.inj hm
          exact xiret X hP hS dX9_judge_84
        · have hm := xift c8 hm
          refine lv_iload_n hx hb dX9_judge_57 rfl (lv_at hl 2 rfl) ?_
          refine lv_if_le (tgt := 85) hx hb dX9_judge_58 (by decide) (fun c9 => ?_) (fun c9 => ?_)
          · have hm := xift c9 hm
            exact kX9_judge_85 X V (fX9_judge_25 n) ih x1 (M 46 x1.toNatClampNeg) M _ _ _ hm hP hS (lv_sub hl [1, 2, 0] rfl)
          · have hm := xiff c9 hm
            refine lv_aload_n hx hb dX9_judge_61 rfl (lv_at hl 1 rfl) ?_
            refine xget xcX9 X hP 37 9 xy37 (by decide) xf_X9_32 rfl dX9_judge_62 ?_
            refine lv_aload_n hx hb dX9_judge_65 rfl (lv_at hl 1 rfl) ?_
            refine xget xcX9 X hP 37 10 xy37 (by decide) xf_X9_35 rfl dX9_judge_66 ?_
            refine lv_iload_n hx hb dX9_judge_69 rfl (lv_at hl 2 rfl) ?_
            refine lv_iconst (v := 1) hx hb dX9_judge_70 (by decide) ?_
            refine lv_isub hx hb dX9_judge_71 ?_
            obtain ⟨hi10, hm⟩ := xifn hm
            refine xiald X hP 46 xy46 hi10 dX9_judge_72 ?_
            obtain ⟨hi11, hm⟩ := xifn hm
            refine xiald X hP 45 xy45 hi11 dX9_judge_73 ?_
            refine lv_aload_n hx hb dX9_judge_74 rfl (lv_at hl 1 rfl) ?_
            refine xget xcX9 X hP 37 9 xy37 (by decide) xf_X9_32 rfl dX9_judge_75 ?_
            refine lv_iload_n hx hb dX9_judge_78 rfl (lv_at hl 0 rfl) ?_
            obtain ⟨hi12, hm⟩ := xifn hm
            refine xiald X hP 45 xy45 hi12 dX9_judge_79 ?_
            refine lv_icmp_le (tgt := 85) hx hb dX9_judge_80 (by decide) (fun c13 => ?_) (fun c13 => ?_)
            · have hm := xift c13 hm
              exact kX9_judge_85 X V (fX9_judge_25 n) ih x1 (M 46 x1.toNatClampNeg) M _ _ _ hm hP hS (lv_sub hl [1, 2, 0] rfl)
            · have hm := xiff c13 hm
              refine lv_iload_n hx hb dX9_judge_83 rfl (lv_at hl 2 rfl) ?_
              obtain rfl := Option.some.inj hm
              exact xiret X hP hS dX9_judge_84
def fX9_judge_23   (M : xM) : Option (Int32 × xM) := fX9_judge_25 4096 0 M
theorem fX9_judge_23_s   (M : xM) : fX9_judge_23  M = (fX9_judge_25 4096 0 M) := rfl
set_option maxHeartbeats 4000000 in
set_option maxRecDepth 100000 in
theorem kX9_judge_23 {p : Program} {l : Launch} {e : Env} {s : State} {m : MethodId} {args : Array Value} {below : List Frame} {meth : Method} {c : Code} {w : xT} (X : xX p s m args meth c cX9_judge 3 (some .int) RX9 w) (V : Int32 × xM)  : ∀  (M : xM) (H : Heap) (locs : List Loc) (ls : Array Slot), fX9_judge_23  M = some V → xP w M H → xS w s H locs → lv_has ls 3 [(0, .ref (xa w 37))] → W p l e { frames := 1, cells := 0, slots := 0, locals := 21 } s m args below meth c H locs 0 0 (xQ w (some (.int V.1)) V.2 below args s) (F0 m 23 ls []) := by
  have hx := X.1
  have hb := X.2.1
  have hown := X.2.2.2.2.2.1
  have hts := X.2.2.2.2.2.2.1
  intro M H locs ls hm hP hS hl
  rw [fX9_judge_23_s] at hm
  refine lv_iconst (v := 0) hx hb dX9_judge_23 (by decide) ?_
  refine lv_istore_n (lv' := [(1, .int 0), (0, .ref (xa w 37))]) hx hb dX9_judge_24 rfl hl (by decide) rfl (fun ls hl => ?_)
  exact kX9_judge_25 X V  4096 0 M _ _ _ hm hP hS (lv_sub hl [1, 0] rfl)
def fX9_judge_2  : Nat → Int32 → xM → Option (Int32 × xM)
  | 0 => fun _ _ => none
  | n + 1 => fun x1 M => if (M 37 6) ≤ x1 then (fX9_judge_23  M) else (if xin x1 408 then xlt (xs1 M 49 x1.toNatClampNeg (vp_nar .boolean 0)) fun M16 => fX9_judge_2 n (x1 + 1) M16 else none)
theorem fX9_judge_2_s  (n : Nat) (x1 : Int32) (M : xM) : fX9_judge_2  (n + 1) x1 M = (if (M 37 6) ≤ x1 then (fX9_judge_23  M) else (if xin x1 408 then xlt (xs1 M 49 x1.toNatClampNeg (vp_nar .boolean 0)) fun M16 => fX9_judge_2 n (x1 + 1) M16 else none)) := rfl
set_option maxHeartbeats 4000000 in
set_option maxRecDepth 100000 in
theorem kX9_judge_2 {p : Program} {l : Launch} {e : Env} {s : State} {m : MethodId} {args : Array Value} {below : List Frame} {meth : Method} {c : Code} {w : xT} (X : xX p s m args meth c cX9_judge 3 (some .int) RX9 w) (V : Int32 × xM)  : ∀ (n : Nat) (x1 : Int32) (M : xM) (H : Heap) (locs : List Loc) (ls : Array Slot), fX9_judge_2  n x1 M = some V → xP w M H → xS w s H locs → lv_has ls 3 [(0, .ref (xa w 37)), (1, .int x1)] → W p l e { frames := 1, cells := 0, slots := 0, locals := 21 } s m args below meth c H locs 0 0 (xQ w (some (.int V.1)) V.2 below args s) (F0 m 2 ls []) := by
  have hx := X.1
  have hb := X.2.1
  have hown := X.2.2.2.2.2.1
  have hts := X.2.2.2.2.2.2.1
  intro n
  induction n with
  | zero => intro x1 M H locs ls hm hP hS hl; exact xnon hm
  | succ n ih =>
    intro x1 M H locs ls hm hP hS hl
    rw [fX9_judge_2_s] at hm
    refine lv_iload_n hx hb dX9_judge_2 rfl (lv_at hl 1 rfl) ?_
    refine lv_aload_n hx hb dX9_judge_3 rfl (lv_at hl 0 rfl) ?_
    refine xgeti xcX9 X hP 37 6 xy37 (by decide) xf_X9_48 rfl dX9_judge_4 ?_
    refine lv_icmp_ge (tgt := 23) hx hb dX9_judge_7 (by decide) (fun c14 => ?_) (fun c14 => ?_)
    · have hm := xift c14 hm
      exact kX9_judge_23 X V  M _ _ _ hm hP hS (lv_sub hl [0] rfl)
    · have hm := xiff c14 hm
      refine lv_aload_n hx hb dX9_judge_10 rfl (lv_at hl 0 rfl) ?_
      refine xget xcX9 X hP 37 14 xy37 (by decide) xf_X9_44 rfl dX9_judge_11 ?_
      refine lv_iload_n hx hb dX9_judge_14 rfl (lv_at hl 1 rfl) ?_
      refine lv_iconst (v := 0) hx hb dX9_judge_15 (by decide) ?_
      obtain ⟨hi15, hm⟩ := xifn hm
      refine xzast X hP hS 49 xy49 hi15 dX9_judge_16 (fun M16 H locs eM16 hP hS => ?_)
      have hm := xltE hm eM16
      refine lv_iinc (v := x1 + 1) (lv' := [(1, .int (x1 + 1)), (0, .ref (xa w 37))]) hx hb dX9_judge_17 hl (k := 1) rfl rfl (by decide) rfl (fun ls hl => ?_)
      refine lv_goto (tgt := 2) hx hb dX9_judge_20 (by decide) ?_
      exact ih (x1 + 1) M16 _ _ _ hm hP hS (lv_sub hl [1, 0] rfl)
def fX9_judge  (M : xM) : Option (Int32 × xM) := fX9_judge_2 4096 0 M
theorem fX9_judge_s  (M : xM) : fX9_judge M = (fX9_judge_2 4096 0 M) := rfl
set_option maxHeartbeats 4000000 in
set_option maxRecDepth 100000 in
theorem qX9_judge (l : Launch) (w : xT)  (M : xM) (V : Int32 × xM) (hm : fX9_judge M = some V) : xC l yX9_judge (Cond.code yX9_judge cX9_judge 3 (some .int)) { frames := 1, cells := 0, slots := 0, locals := 21 } w [.ref (xa w 37)] M (some (.int V.1)) V.2 := by
  refine xC.of (by decide) (Nat.le_of_ble_eq_true rfl) ?_
  intro p e s m args below meth c ls X hP hS hl
  have hl : lv_has ls 3 [(0, .ref (xa w 37))] := hl
  have X : xX p s m args meth c cX9_judge 3 (some .int) RX9 w := X
  have hx := X.1
  have hb := X.2.1
  have hown := X.2.2.2.2.2.1
  have hts := X.2.2.2.2.2.2.1
  rw [fX9_judge_s] at hm
  refine lv_iconst (v := 0) hx hb dX9_judge_0 (by decide) ?_
  refine lv_istore_n (lv' := [(1, .int 0), (0, .ref (xa w 37))]) hx hb dX9_judge_1 rfl hl (by decide) rfl (fun ls hl => ?_)
  exact kX9_judge_2 X V  4096 0 M _ _ _ hm hP hS (lv_sub hl [1, 0] rfl)
