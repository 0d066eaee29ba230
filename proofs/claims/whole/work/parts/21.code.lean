def fX6_dropLast (x1 : Int32) (x2 : Int32) (M : xM) : Option (xM) := (fX6_endOf x1 M).bind fun v1 => if xcin v1 (v1 - x2) ((M 1 2) - v1) 400 400 then xlt (xcp M 2 2 v1 (v1 - x2) ((M 1 2) - v1)) fun M3 => if xin x1 8 then if xin x1 8 then xlt (xs1 M3 3 x1.toNatClampNeg ((M3 3 x1.toNatClampNeg) - x2)) fun M6 => xlt (xs1 M6 1 2 ((M6 1 2) - x2)) fun M7 => some M7 else none else none else none
theorem fX6_dropLast_s (x1 : Int32) (x2 : Int32) (M : xM) : fX6_dropLast x1 x2 M = ((fX6_endOf x1 M).bind fun v1 => if xcin v1 (v1 - x2) ((M 1 2) - v1) 400 400 then xlt (xcp M 2 2 v1 (v1 - x2) ((M 1 2) - v1)) fun M3 => if xin x1 8 then if xin x1 8 then xlt (xs1 M3 3 x1.toNatClampNeg ((M3 3 x1.toNatClampNeg) - x2)) fun M6 => xlt (xs1 M6 1 2 ((M6 1 2) - x2)) fun M7 => some M7 else none else none else none) := rfl
set_option maxHeartbeats 4000000 in
set_option maxRecDepth 100000 in
theorem qX6_dropLast (l : Launch) (w : xT) (x1 : Int32) (x2 : Int32) (M : xM) (V : xM) (hm : fX6_dropLast x1 x2 M = some V) : xC l yX6_dropLast (Cond.code yX6_dropLast cX6_dropLast 4 none) { frames := 1, cells := 0, slots := 0, locals := 40 } w [.ref (xa w 1), .int x1, .int x2] M none V := by
  refine xC.of (by decide) (Nat.le_of_ble_eq_true rfl) ?_
  intro p e s m args below meth c ls X hP hS hl
  have hl : lv_has ls 4 [(0, .ref (xa w 1)), (1, .int x1), (2, .int x2)] := hl
  have X : xX p s m args meth c cX6_dropLast 4 none RX6 w := X
  have hx := X.1
  have hb := X.2.1
  have hown := X.2.2.2.2.2.1
  have hts := X.2.2.2.2.2.2.1
  rw [fX6_dropLast_s] at hm
  refine lv_aload_n hx hb dX6_dropLast_0 rfl (lv_at hl 0 rfl) ?_
  refine lv_iload_n hx hb dX6_dropLast_1 rfl (lv_at hl 1 rfl) ?_
  obtain ⟨v1, hg, hm⟩ := xbnd hm
  refine xcallV xm_X6_22 xt_X6_endOf X hP hS (qX6_endOf l w x1 M v1 hg) xy1 rfl ⟨Nat.le_of_ble_eq_true rfl, Nat.le_of_ble_eq_true rfl⟩ ⟨rfl, rfl⟩ hl.1 rfl (rest := []) rfl (Nat.le_of_ble_eq_true rfl) dX6_dropLast_2 ⟨Nat.zero_le _, Nat.zero_le _⟩ (fun H locs hP hS => ?_)
  refine W.eq (g2 := F0 m 5 ls [.int v1]) rfl ?_
  refine lv_istore_n (lv' := [(3, .int v1), (0, .ref (xa w 1)), (1, .int x1), (2, .int x2)]) hx hb dX6_dropLast_5 rfl hl (by decide) rfl (fun ls hl => ?_)
  refine lv_aload_n hx hb dX6_dropLast_6 rfl (lv_at hl 1 rfl) ?_
  refine xget xcX6 X hP 1 0 xy1 (by decide) xf_X6_9 rfl dX6_dropLast_7 ?_
  refine lv_iload_n hx hb dX6_dropLast_10 rfl (lv_at hl 0 rfl) ?_
  refine lv_aload_n hx hb dX6_dropLast_11 rfl (lv_at hl 1 rfl) ?_
  refine xget xcX6 X hP 1 0 xy1 (by decide) xf_X6_9 rfl dX6_dropLast_12 ?_
  refine lv_iload_n hx hb dX6_dropLast_15 rfl (lv_at hl 0 rfl) ?_
  refine lv_iload_n hx hb dX6_dropLast_16 rfl (lv_at hl 3 rfl) ?_
  refine lv_isub hx hb dX6_dropLast_17 ?_
  refine lv_aload_n hx hb dX6_dropLast_18 rfl (lv_at hl 1 rfl) ?_
  refine xgeti xcX6 X hP 1 2 xy1 (by decide) xf_X6_18 rfl dX6_dropLast_19 ?_
  refine lv_iload_n hx hb dX6_dropLast_22 rfl (lv_at hl 0 rfl) ?_
  refine lv_isub hx hb dX6_dropLast_23 ?_
  obtain ⟨hi2, hm⟩ := xifn hm
  refine xcopy xm_X6_26 xac1 xac2 xac3 X hP hS 2 2 xy2 xy2 hi2 hl.1 (by decide) (by decide) dX6_dropLast_24 (fun M3 H locs eM3 hP hS => ?_)
  have hm := xltE hm eM3
  refine lv_aload_n hx hb dX6_dropLast_27 rfl (lv_at hl 1 rfl) ?_
  refine xget xcX6 X hP 1 1 xy1 (by decide) xf_X6_15 rfl dX6_dropLast_28 ?_
  refine lv_iload_n hx hb dX6_dropLast_31 rfl (lv_at hl 2 rfl) ?_
  refine lv_dup2_11 hx hb dX6_dropLast_32 rfl rfl ?_
  obtain ⟨hi4, hm⟩ := xifn hm
  refine xiald X hP 3 xy3 hi4 dX6_dropLast_33 ?_
  refine lv_iload_n hx hb dX6_dropLast_34 rfl (lv_at hl 3 rfl) ?_
  refine lv_isub hx hb dX6_dropLast_35 ?_
  obtain ⟨hi5, hm⟩ := xifn hm
  refine xiast X hP hS 3 xy3 hi5 dX6_dropLast_36 (fun M6 H locs eM6 hP hS => ?_)
  have hm := xltE hm eM6
  refine lv_aload_n hx hb dX6_dropLast_37 rfl (lv_at hl 1 rfl) ?_
  refine lv_dup hx hb dX6_dropLast_38 rfl ?_
  refine xgeti xcX6 X hP 1 2 xy1 (by decide) xf_X6_18 rfl dX6_dropLast_39 ?_
  refine lv_iload_n hx hb dX6_dropLast_42 rfl (lv_at hl 3 rfl) ?_
  refine lv_isub hx hb dX6_dropLast_43 ?_
  refine xputi xcX6 X hP hS 1 2 xy1 (by decide) xf_X6_18 rfl (tyX6_ok 2 (by decide)) rfl dX6_dropLast_44 (fun M7 H locs eM7 hP hS => ?_)
  have hm := xltE hm eM7
  obtain rfl := Option.some.inj hm
  exact xvret X hP hS dX6_dropLast_47
def fX8_cut (x1 : Int32) (x2 : Int32) (M : xM) : Option (Int32 × xM) := (fX8_isText x1 M).bind fun v1 => if v1 = 0 then (some ((-1), M)) else (if x2 < 0 then (some ((-1), M)) else (if xin x1 8 then if x2 ≤ (M 3 x1.toNatClampNeg) then ((fX6_dropLast x1 x2 M).bind fun v6 => if xin x1 8 then some (v6 3 x1.toNatClampNeg, v6) else none) else (some ((-1), M)) else none))
theorem fX8_cut_s (x1 : Int32) (x2 : Int32) (M : xM) : fX8_cut x1 x2 M = ((fX8_isText x1 M).bind fun v1 => if v1 = 0 then (some ((-1), M)) else (if x2 < 0 then (some ((-1), M)) else (if xin x1 8 then if x2 ≤ (M 3 x1.toNatClampNeg) then ((fX6_dropLast x1 x2 M).bind fun v6 => if xin x1 8 then some (v6 3 x1.toNatClampNeg, v6) else none) else (some ((-1), M)) else none))) := rfl
set_option maxHeartbeats 4000000 in
set_option maxRecDepth 100000 in
theorem qX8_cut (l : Launch) (w : xT) (x1 : Int32) (x2 : Int32) (M : xM) (V : Int32 × xM) (hm : fX8_cut x1 x2 M = some V) : xC l yX8_cut (Cond.code yX8_cut cX8_cut 3 (some .int)) { frames := 2, cells := 0, slots := 0, locals := 63 } w [.ref (xa w 0), .int x1, .int x2] M (some (.int V.1)) V.2 := by
  refine xC.of (by decide) (Nat.le_of_ble_eq_true rfl) ?_
  intro p e s m args below meth c ls X hP hS hl
  have hl : lv_has ls 3 [(0, .ref (xa w 0)), (1, .int x1), (2, .int x2)] := hl
  have X : xX p s m args meth c cX8_cut 3 (some .int) RX8 w := X
  have hx := X.1
  have hb := X.2.1
  have hown := X.2.2.2.2.2.1
  have hts := X.2.2.2.2.2.2.1
  rw [fX8_cut_s] at hm
  refine lv_iload_n hx hb dX8_cut_0 rfl (lv_at hl 1 rfl) ?_
  obtain ⟨v1, hg, hm⟩ := xbnd hm
  refine xcallS xm_X8_66 xt_X8_isText X hP hS (qX8_isText l w x1 M v1 hg) ⟨Nat.le_of_ble_eq_true rfl, Nat.le_of_ble_eq_true rfl⟩ ⟨rfl, rfl⟩ hl.1 rfl (rest := []) rfl (Nat.le_of_ble_eq_true rfl) dX8_cut_1 ⟨Nat.zero_le _, Nat.zero_le _⟩ (fun H locs hP hS => ?_)
  refine W.eq (g2 := F0 m 4 ls [.int v1]) rfl ?_
  refine lv_if_eq (tgt := 24) hx hb dX8_cut_4 (by decide) (fun c2 => ?_) (fun c2 => ?_)
  · have hm := xift c2 hm
    refine lv_iconst (v := (-1)) hx hb dX8_cut_24 (by decide) ?_
    obtain rfl := Option.some.inj hm
    exact xiret X hP hS dX8_cut_25
  · have hm := xiff c2 hm
    refine lv_iload_n hx hb dX8_cut_7 rfl (lv_at hl 2 rfl) ?_
    refine lv_if_lt (tgt := 24) hx hb dX8_cut_8 (by decide) (fun c3 => ?_) (fun c3 => ?_)
    · have hm := xift c3 hm
      refine lv_iconst (v := (-1)) hx hb dX8_cut_24 (by decide) ?_
      obtain rfl := Option.some.inj hm
      exact xiret X hP hS dX8_cut_25
    · have hm := xiff c3 hm
      refine lv_iload_n hx hb dX8_cut_11 rfl (lv_at hl 2 rfl) ?_
      refine lv_aload_n hx hb dX8_cut_12 rfl (lv_at hl 0 rfl) ?_
      refine xget xcX8 X hP 0 0 xy0 (by decide) xf_X8_12 rfl dX8_cut_13 ?_
      refine xget xcX6 X hP 1 1 xy1 (by decide) xf_X8_78 rfl dX8_cut_16 ?_
      refine lv_iload_n hx hb dX8_cut_19 rfl (lv_at hl 1 rfl) ?_
      obtain ⟨hi4, hm⟩ := xifn hm
      refine xiald X hP 3 xy3 hi4 dX8_cut_20 ?_
      refine lv_icmp_le (tgt := 26) hx hb dX8_cut_21 (by decide) (fun c5 => ?_) (fun c5 => ?_)
      · have hm := xift c5 hm
        refine lv_aload_n hx hb dX8_cut_26 rfl (lv_at hl 0 rfl) ?_
        refine xget xcX8 X hP 0 0 xy0 (by decide) xf_X8_12 rfl dX8_cut_27 ?_
        refine lv_iload_n hx hb dX8_cut_30 rfl (lv_at hl 1 rfl) ?_
        refine lv_iload_n hx hb dX8_cut_31 rfl (lv_at hl 2 rfl) ?_
        obtain ⟨v6, hg, hm⟩ := xbnd hm
        refine xcallV xm_X8_82 xt_X6_dropLast X hP hS (qX6_dropLast l w x1 x2 M v6 hg) xy1 rfl ⟨Nat.le_of_ble_eq_true rfl, Nat.le_of_ble_eq_true rfl⟩ ⟨rfl, rfl⟩ hl.1 rfl (rest := []) rfl (Nat.le_of_ble_eq_true rfl) dX8_cut_32 ⟨Nat.zero_le _, Nat.zero_le _⟩ (fun H locs hP hS => ?_)
        refine W.eq (g2 := F0 m 35 ls []) rfl ?_
        refine lv_aload_n hx hb dX8_cut_35 rfl (lv_at hl 0 rfl) ?_
        refine xget xcX8 X hP 0 0 xy0 (by decide) xf_X8_12 rfl dX8_cut_36 ?_
        refine xget xcX6 X hP 1 1 xy1 (by decide) xf_X8_78 rfl dX8_cut_39 ?_
        refine lv_iload_n hx hb dX8_cut_42 rfl (lv_at hl 1 rfl) ?_
        obtain ⟨hi7, hm⟩ := xifn hm
        refine xiald X hP 3 xy3 hi7 dX8_cut_43 ?_
        obtain rfl := Option.some.inj hm
        exact xiret X hP hS dX8_cut_44
      · have hm := xiff c5 hm
        refine lv_iconst (v := (-1)) hx hb dX8_cut_24 (by decide) ?_
        obtain rfl := Option.some.inj hm
        exact xiret X hP hS dX8_cut_25
def fX9_cut (x1 : Int32) (x2 : Int32) (M : xM) : Option (Int32 × xM) := (fX9_isText x1 M).bind fun v1 => if v1 = 0 then (some ((-1), M)) else (if x2 < 0 then (some ((-1), M)) else (if xin x1 8 then if x2 ≤ (M 39 x1.toNatClampNeg) then (if xin x1 8 then if xin x1 8 then xlt (xs1 M 39 x1.toNatClampNeg ((M 39 x1.toNatClampNeg) - x2)) fun M8 => xlt (xs1 M8 37 2 ((M8 37 2) - x2)) fun M9 => if xin x1 8 then some (M9 39 x1.toNatClampNeg, M9) else none else none else none) else (some ((-1), M)) else none))
theorem fX9_cut_s (x1 : Int32) (x2 : Int32) (M : xM) : fX9_cut x1 x2 M = ((fX9_isText x1 M).bind fun v1 => if v1 = 0 then (some ((-1), M)) else (if x2 < 0 then (some ((-1), M)) else (if xin x1 8 then if x2 ≤ (M 39 x1.toNatClampNeg) then (if xin x1 8 then if xin x1 8 then xlt (xs1 M 39 x1.toNatClampNeg ((M 39 x1.toNatClampNeg) - x2)) fun M8 => xlt (xs1 M8 37 2 ((M8 37 2) - x2)) fun M9 => if xin x1 8 then some (M9 39 x1.toNatClampNeg, M9) else none else none else none) else (some ((-1), M)) else none))) := rfl
set_option maxHeartbeats 4000000 in
set_option maxRecDepth 100000 in
theorem qX9_cut (l : Launch) (w : xT) (x1 : Int32) (x2 : Int32) (M : xM) (V : Int32 × xM) (hm : fX9_cut x1 x2 M = some V) : xC l yX9_cut (Cond.code yX9_cut cX9_cut 3 (some .int)) { frames := 1, cells := 0, slots := 0, locals := 20 } w [.ref (xa w 37), .int x1, .int x2] M (some (.int V.1)) V.2 := by
  refine xC.of (by decide) (Nat.le_of_ble_eq_true rfl) ?_
  intro p e s m args below meth c ls X hP hS hl
  have hl : lv_has ls 3 [(0, .ref (xa w 37)), (1, .int x1), (2, .int x2)] := hl
  have X : xX p s m args meth c cX9_cut 3 (some .int) RX9 w := X
  have hx := X.1
  have hb := X.2.1
  have hown := X.2.2.2.2.2.1
  have hts := X.2.2.2.2.2.2.1
  rw [fX9_cut_s] at hm
  refine lv_iload_n hx hb dX9_cut_0 rfl (lv_at hl 1 rfl) ?_
  obtain ⟨v1, hg, hm⟩ := xbnd hm
  refine xcallS xm_X9_55 xt_X9_isText X hP hS (qX9_isText l w x1 M v1 hg) ⟨Nat.le_of_ble_eq_true rfl, Nat.le_of_ble_eq_true rfl⟩ ⟨rfl, rfl⟩ hl.1 rfl (rest := []) rfl (Nat.le_of_ble_eq_true rfl) dX9_cut_1 ⟨Nat.zero_le _, Nat.zero_le _⟩ (fun H locs hP hS => ?_)
  refine W.eq (g2 := F0 m 4 ls [.int v1]) rfl ?_
  refine lv_if_eq (tgt := 21) hx hb dX9_cut_4 (by decide) (fun c2 => ?_) (fun c2 => ?_)
  · have hm := xift c2 hm
    refine lv_iconst (v := (-1)) hx hb dX9_cut_21 (by decide) ?_
    obtain rfl := Option.some.inj hm
    exact xiret X hP hS dX9_cut_22
  · have hm := xiff c2 hm
    refine lv_iload_n hx hb dX9_cut_7 rfl (lv_at hl 2 rfl) ?_
    refine lv_if_lt (tgt := 21) hx hb dX9_cut_8 (by decide) (fun c3 => ?_) (fun c3 => ?_)
    · have hm := xift c3 hm
      refine lv_iconst (v := (-1)) hx hb dX9_cut_21 (by decide) ?_
      obtain rfl := Option.some.inj hm
      exact xiret X hP hS dX9_cut_22
    · have hm := xiff c3 hm
      refine lv_iload_n hx hb dX9_cut_11 rfl (lv_at hl 2 rfl) ?_
      refine lv_aload_n hx hb dX9_cut_12 rfl (lv_at hl 0 rfl) ?_
      refine xget xcX9 X hP 37 1 xy37 (by decide) xf_X9_13 rfl dX9_cut_13 ?_
      refine lv_iload_n hx hb dX9_cut_16 rfl (lv_at hl 1 rfl) ?_
      obtain ⟨hi4, hm⟩ := xifn hm
      refine xiald X hP 39 xy39 hi4 dX9_cut_17 ?_
      refine lv_icmp_le (tgt := 23) hx hb dX9_cut_18 (by decide) (fun c5 => ?_) (fun c5 => ?_)
      · have hm := xift c5 hm
        refine lv_aload_n hx hb dX9_cut_23 rfl (lv_at hl 0 rfl) ?_
        refine xget xcX9 X hP 37 1 xy37 (by decide) xf_X9_13 rfl dX9_cut_24 ?_
        refine lv_iload_n hx hb dX9_cut_27 rfl (lv_at hl 1 rfl) ?_
        refine lv_dup2_11 hx hb dX9_cut_28 rfl rfl ?_
        obtain ⟨hi6, hm⟩ := xifn hm
        refine xiald X hP 39 xy39 hi6 dX9_cut_29 ?_
        refine lv_iload_n hx hb dX9_cut_30 rfl (lv_at hl 2 rfl) ?_
        refine lv_isub hx hb dX9_cut_31 ?_
        obtain ⟨hi7, hm⟩ := xifn hm
        refine xiast X hP hS 39 xy39 hi7 dX9_cut_32 (fun M8 H locs eM8 hP hS => ?_)
        have hm := xltE hm eM8
        refine lv_aload_n hx hb dX9_cut_33 rfl (lv_at hl 0 rfl) ?_
        refine lv_dup hx hb dX9_cut_34 rfl ?_
        refine xgeti xcX9 X hP 37 2 xy37 (by decide) xf_X9_52 rfl dX9_cut_35 ?_
        refine lv_iload_n hx hb dX9_cut_38 rfl (lv_at hl 2 rfl) ?_
        refine lv_isub hx hb dX9_cut_39 ?_
        refine xputi xcX9 X hP hS 37 2 xy37 (by decide) xf_X9_52 rfl (tyX9_ok 2 (by decide)) rfl dX9_cut_40 (fun M9 H locs eM9 hP hS => ?_)
        have hm := xltE hm eM9
        refine lv_aload_n hx hb dX9_cut_43 rfl (lv_at hl 0 rfl) ?_
        refine xget xcX9 X hP 37 1 xy37 (by decide) xf_X9_13 rfl dX9_cut_44 ?_
        refine lv_iload_n hx hb dX9_cut_47 rfl (lv_at hl 1 rfl) ?_
        obtain ⟨hi10, hm⟩ := xifn hm
        refine xiald X hP 39 xy39 hi10 dX9_cut_48 ?_
        obtain rfl := Option.some.inj hm
        exact xiret X hP hS dX9_cut_49
      · have hm := xiff c5 hm
        refine lv_iconst (v := (-1)) hx hb dX9_cut_21 (by decide) ?_
        obtain rfl := Option.some.inj hm
        exact xiret X hP hS dX9_cut_22
def fX7_layLetter (x1 : Int32) (x2 : Int32) (M : xM) : Option (xM) := if xin (M 4 4) 408 then xlt (xs1 M 5 (M 4 4).toNatClampNeg x2) fun M2 => if xin (M2 4 4) 408 then xlt (xs1 M2 6 (M2 4 4).toNatClampNeg x1) fun M4 => xlt (xs1 M4 4 4 ((M4 4 4) + 1)) fun M5 => some M5 else none else none
theorem fX7_layLetter_s (x1 : Int32) (x2 : Int32) (M : xM) : fX7_layLetter x1 x2 M = (if xin (M 4 4) 408 then xlt (xs1 M 5 (M 4 4).toNatClampNeg x2) fun M2 => if xin (M2 4 4) 408 then xlt (xs1 M2 6 (M2 4 4).toNatClampNeg x1) fun M4 => xlt (xs1 M4 4 4 ((M4 4 4) + 1)) fun M5 => some M5 else none else none) := rfl
set_option maxHeartbeats 4000000 in
set_option maxRecDepth 100000 in
theorem qX7_layLetter (l : Launch) (w : xT) (x1 : Int32) (x2 : Int32) (M : xM) (V : xM) (hm : fX7_layLetter x1 x2 M = some V) : xC l yX7_layLetter (Cond.code yX7_layLetter cX7_layLetter 3 none) { frames := 0, cells := 0, slots := 0, locals := 0 } w [.ref (xa w 4), .int x1, .int x2] M none V := by
  refine xC.of (by decide) (Nat.le_of_ble_eq_true rfl) ?_
  intro p e s m args below meth c ls X hP hS hl
  have hl : lv_has ls 3 [(0, .ref (xa w 4)), (1, .int x1), (2, .int x2)] := hl
  have X : xX p s m args meth c cX7_layLetter 3 none RX7 w := X
  have hx := X.1
  have hb := X.2.1
  have hown := X.2.2.2.2.2.1
  have hts := X.2.2.2.2.2.2.1
  rw [fX7_layLetter_s] at hm
  refine lv_aload_n hx hb dX7_layLetter_0 rfl (lv_at hl 0 rfl) ?_
  refine xget xcX7 X hP 4 0 xy4 (by decide) xf_X7_9 rfl dX7_layLetter_1 ?_
  refine lv_aload_n hx hb dX7_layLetter_4 rfl (lv_at hl 0 rfl) ?_
  refine xgeti xcX7 X hP 4 4 xy4 (by decide) xf_X7_24 rfl dX7_layLetter_5 ?_
  refine lv_iload_n hx hb dX7_layLetter_8 rfl (lv_at hl 2 rfl) ?_
  obtain ⟨hi1, hm⟩ := xifn hm
  refine xiast X hP hS 5 xy5 hi1 dX7_layLetter_9 (fun M2 H locs eM2 hP hS => ?_)
  have hm := xltE hm eM2
  refine lv_aload_n hx hb dX7_layLetter_10 rfl (lv_at hl 0 rfl) ?_
  refine xget xcX7 X hP 4 1 xy4 (by decide) xf_X7_15 rfl dX7_layLetter_11 ?_
  refine lv_aload_n hx hb dX7_layLetter_14 rfl (lv_at hl 0 rfl) ?_
  refine xgeti xcX7 X hP 4 4 xy4 (by decide) xf_X7_24 rfl dX7_layLetter_15 ?_
  refine lv_iload_n hx hb dX7_layLetter_18 rfl (lv_at hl 1 rfl) ?_
  obtain ⟨hi3, hm⟩ := xifn hm
  refine xiast X hP hS 6 xy6 hi3 dX7_layLetter_19 (fun M4 H locs eM4 hP hS => ?_)
  have hm := xltE hm eM4
  refine lv_aload_n hx hb dX7_layLetter_20 rfl (lv_at hl 0 rfl) ?_
  refine lv_dup hx hb dX7_layLetter_21 rfl ?_
  refine xgeti xcX7 X hP 4 4 xy4 (by decide) xf_X7_24 rfl dX7_layLetter_22 ?_
  refine lv_iconst (v := 1) hx hb dX7_layLetter_25 (by decide) ?_
  refine lv_iadd hx hb dX7_layLetter_26 ?_
  refine xputi xcX7 X hP hS 4 4 xy4 (by decide) xf_X7_24 rfl (tyX7_ok 4 (by decide)) rfl dX7_layLetter_27 (fun M5 H locs eM5 hP hS => ?_)
  have hm := xltE hm eM5
  obtain rfl := Option.some.inj hm
  exact xvret X hP hS dX7_layLetter_30
def fX7_lay_87 (k9 : Int32 → Int32 → xM → Option (xM)) (x2 : Int32) (x3 : Int32) (M : xM) : Option (xM) := k9 x2 (x3 + 1) M
theorem fX7_lay_87_s (k9 : Int32 → Int32 → xM → Option (xM)) (x2 : Int32) (x3 : Int32) (M : xM) : fX7_lay_87 k9 x2 x3 M = (k9 x2 (x3 + 1) M) := rfl
set_option maxHeartbeats 4000000 in
set_option maxRecDepth 100000 in
theorem kX7_lay_87 {p : Program} {l : Launch} {e : Env} {s : State} {m : MethodId} {args : Array Value} {below : List Frame} {meth : Method} {c : Code} {w : xT} (X : xX p s m args meth c cX7_lay 5 none RX7 w) (V : xM) (k9 : Int32 → Int32 → xM → Option (xM)) (hk9 : ∀ (x2 : Int32) (x3 : Int32) (M : xM) (H : Heap) (locs : List Loc) (ls : Array Slot), k9 x2 x3 M = some V → xP w M H → xS w s H locs → lv_has ls 5 [(0, .ref (xa w 4)), (1, .ref (xa w 1)), (2, .int x2), (3, .int x3)] → W p l e { frames := 1, cells := 0, slots := 0, locals := 22 } s m args below meth c H locs 0 0 (xQ w none V below args s) (F0 m 9 ls [])) : ∀ (x2 : Int32) (x3 : Int32) (M : xM) (H : Heap) (locs : List Loc) (ls : Array Slot), fX7_lay_87 k9 x2 x3 M = some V → xP w M H → xS w s H locs → lv_has ls 5 [(0, .ref (xa w 4)), (1, .ref (xa w 1)), (2, .int x2), (3, .int x3)] → W p l e { frames := 1, cells := 0, slots := 0, locals := 22 } s m args below meth c H locs 0 0 (xQ w none V below args s) (F0 m 87 ls []) := by
  have hx := X.1
  have hb := X.2.1
  have hown := X.2.2.2.2.2.1
  have hts := X.2.2.2.2.2.2.1
  intro x2 x3 M H locs ls hm hP hS hl
  rw [fX7_lay_87_s] at hm
  refine lv_iinc (v := x3 + 1) (lv' := [(3, .int (x3 + 1)), (0, .ref (xa w 4)), (1, .ref (xa w 1)), (2, .int x2)]) hx hb dX7_lay_87 hl (k := 3) rfl rfl (by decide) rfl (fun ls hl => ?_)
  refine lv_goto (tgt := 9) hx hb dX7_lay_90 (by decide) ?_
  exact hk9 x2 (x3 + 1) M _ _ _ hm hP hS (lv_sub hl [1, 2, 3, 0] rfl)
def fX7_lay_62 (k9 : Int32 → Int32 → xM → Option (xM)) (x2 : Int32) (x3 : Int32) (M : xM) : Option (xM) := if xin x3 8 then xlt (xs1 M 8 x3.toNatClampNeg (M 4 4)) fun M2 => if xin x3 8 then if (M2 3 x3.toNatClampNeg) ≤ 0 then (fX7_lay_87 k9 x2 x3 M2) else ((fX7_layLetter x3 x3 M2).bind fun v5 => fX7_lay_87 k9 x2 x3 v5) else none else none
theorem fX7_lay_62_s (k9 : Int32 → Int32 → xM → Option (xM)) (x2 : Int32) (x3 : Int32) (M : xM) : fX7_lay_62 k9 x2 x3 M = (if xin x3 8 then xlt (xs1 M 8 x3.toNatClampNeg (M 4 4)) fun M2 => if xin x3 8 then if (M2 3 x3.toNatClampNeg) ≤ 0 then (fX7_lay_87 k9 x2 x3 M2) else ((fX7_layLetter x3 x3 M2).bind fun v5 => fX7_lay_87 k9 x2 x3 v5) else none else none) := rfl
set_option maxHeartbeats 4000000 in
set_option maxRecDepth 100000 in
theorem kX7_lay_62 {p : Program} {l : Launch} {e : Env} {s : State} {m : MethodId} {args : Array Value} {below : List Frame} {meth : Method} {c : Code} {w : xT} (X : xX p s m args meth c cX7_lay 5 none RX7 w) (V : xM) (k9 : Int32 → Int32 → xM → Option (xM)) (hk9 : ∀ (x2 : Int32) (x3 : Int32) (M : xM) (H : Heap) (locs : List Loc) (ls : Array Slot), k9 x2 x3 M = some V → xP w M H → xS w s H locs → lv_has ls 5 [(0, .ref (xa w 4)), (1, .ref (xa w 1)), (2, .int x2), (3, .int x3)] → W p l e { frames := 1, cells := 0, slots := 0, locals := 22 } s m args below meth c H locs 0 0 (xQ w none V below args s) (F0 m 9 ls [])) : ∀ (x2 : Int32) (x3 : Int32) (M : xM) (H : Heap) (locs : List Loc) (ls : Array Slot), fX7_lay_62 k9 x2 x3 M = some V → xP w M H → xS w s H locs → lv_has ls 5 [(0, .ref (xa w 4)), (1, .ref (xa w 1)), (2, .int x2), (3, .int x3)] → W p l e { frames := 1, cells := 0, slots := 0, locals := 22 } s m args below meth c H locs 0 0 (xQ w none V below args s) (F0 m 62 ls []) := by
  have hx := X.1
  have hb := X.2.1
  have hown := X.2.2.2.2.2.1
  have hts := X.2.2.2.2.2.2.1
  intro x2 x3 M H locs ls hm hP hS hl
  rw [fX7_lay_62_s] at hm
  refine lv_aload_n hx hb dX7_lay_62 rfl (lv_at hl 0 rfl) ?_
  refine xget xcX7 X hP 4 3 xy4 (by decide) xf_X7_21 rfl dX7_lay_63 ?_
  refine lv_iload_n hx hb dX7_lay_66 rfl (lv_at hl 3 rfl) ?_
  refine lv_aload_n hx hb dX7_lay_67 rfl (lv_at hl 0 rfl) ?_
  refine xgeti xcX7 X hP 4 4 xy4 (by decide) xf_X7_24 rfl dX7_lay_68 ?_
  obtain ⟨hi1, hm⟩ := xifn hm
  refine xiast X hP hS 8 xy8 hi1 dX7_lay_71 (fun M2 H locs eM2 hP hS => ?_)
  have hm := xltE hm eM2
  refine lv_aload_n hx hb dX7_lay_72 rfl (lv_at hl 1 rfl) ?_
  refine xget xcX6 X hP 1 1 xy1 (by decide) xf_X7_28 rfl dX7_lay_73 ?_
  refine lv_iload_n hx hb dX7_lay_76 rfl (lv_at hl 3 rfl) ?_
  obtain ⟨hi3, hm⟩ := xifn hm
  refine xiald X hP 3 xy3 hi3 dX7_lay_77 ?_
  refine lv_if_le (tgt := 87) hx hb dX7_lay_78 (by decide) (fun c4 => ?_) (fun c4 => ?_)
  · have hm := xift c4 hm
    exact kX7_lay_87 X V k9 hk9 x2 x3 M2 _ _ _ hm hP hS (lv_sub hl [0, 1, 2, 3] rfl)
  · have hm := xiff c4 hm
    refine lv_aload_n hx hb dX7_lay_81 rfl (lv_at hl 0 rfl) ?_
    refine lv_iload_n hx hb dX7_lay_82 rfl (lv_at hl 3 rfl) ?_
    refine lv_iload_n hx hb dX7_lay_83 rfl (lv_at hl 3 rfl) ?_
    obtain ⟨v5, hg, hm⟩ := xbnd hm
    refine xcallV xm_X7_36 xt_X7_layLetter X hP hS (qX7_layLetter l w x3 x3 M2 v5 hg) xy4 rfl ⟨Nat.le_of_ble_eq_true rfl, Nat.le_of_ble_eq_true rfl⟩ ⟨rfl, rfl⟩ hl.1 rfl (rest := []) rfl (Nat.le_of_ble_eq_true rfl) dX7_lay_84 ⟨Nat.zero_le _, Nat.zero_le _⟩ (fun H locs hP hS => ?_)
    refine W.eq (g2 := F0 m 87 ls []) rfl ?_
    exact kX7_lay_87 X V k9 hk9 x2 x3 v5 _ _ _ hm hP hS (lv_sub hl [0, 1, 2, 3] rfl)
def fX7_lay_28 (k9 : Int32 → Int32 → xM → Option (xM)) : Nat → Int32 → Int32 → Int32 → xM → Option (xM)
  | 0 => fun _ _ _ _ => none
  | n + 1 => fun x2 x3 x4 M => if xin x3 8 then if (M 3 x3.toNatClampNeg) ≤ x4 then (fX7_lay_62 k9 x2 x3 M) else (if xin x2 400 then (fX7_layLetter x3 ((M 2 x2.toNatClampNeg) + 8) M).bind fun v9 => fX7_lay_28 k9 n (x2 + 1) x3 (x4 + 1) v9 else none) else none
theorem fX7_lay_28_s (k9 : Int32 → Int32 → xM → Option (xM)) (n : Nat) (x2 : Int32) (x3 : Int32) (x4 : Int32) (M : xM) : fX7_lay_28 k9 (n + 1) x2 x3 x4 M = (if xin x3 8 then if (M 3 x3.toNatClampNeg) ≤ x4 then (fX7_lay_62 k9 x2 x3 M) else (if xin x2 400 then (fX7_layLetter x3 ((M 2 x2.toNatClampNeg) + 8) M).bind fun v9 => fX7_lay_28 k9 n (x2 + 1) x3 (x4 + 1) v9 else none) else none) := rfl
set_option maxHeartbeats 4000000 in
set_option maxRecDepth 100000 in
theorem kX7_lay_28 {p : Program} {l : Launch} {e : Env} {s : State} {m : MethodId} {args : Array Value} {below : List Frame} {meth : Method} {c : Code} {w : xT} (X : xX p s m args meth c cX7_lay 5 none RX7 w) (V : xM) (k9 : Int32 → Int32 → xM → Option (xM)) (hk9 : ∀ (x2 : Int32) (x3 : Int32) (M : xM) (H : Heap) (locs : List Loc) (ls : Array Slot), k9 x2 x3 M = some V → xP w M H → xS w s H locs → lv_has ls 5 [(0, .ref (xa w 4)), (1, .ref (xa w 1)), (2, .int x2), (3, .int x3)] → W p l e { frames := 1, cells := 0, slots := 0, locals := 22 } s m args below meth c H locs 0 0 (xQ w none V below args s) (F0 m 9 ls [])) : ∀ (n : Nat) (x2 : Int32) (x3 : Int32) (x4 : Int32) (M : xM) (H : Heap) (locs : List Loc) (ls : Array Slot), fX7_lay_28 k9 n x2 x3 x4 M = some V → xP w M H → xS w s H locs → lv_has ls 5 [(0, .ref (xa w 4)), (1, .ref (xa w 1)), (2, .int x2), (3, .int x3), (4, .int x4)] → W p l e { frames := 1, cells := 0, slots := 0, locals := 22 } s m args below meth c H locs 0 0 (xQ w none V below args s) (F0 m 28 ls []) := by
  have hx := X.1
  have hb := X.2.1
  have hown := X.2.2.2.2.2.1
  have hts := X.2.2.2.2.2.2.1
  intro n
  induction n with
  | zero => intro x2 x3 x4 M H locs ls hm hP hS hl; exact xnon hm
  | succ n ih =>
    intro x2 x3 x4 M H locs ls hm hP hS hl
    rw [fX7_lay_28_s] at hm
    refine lv_iload hx hb dX7_lay_28 (lv_at hl 4 rfl) ?_
    refine lv_aload_n hx hb dX7_lay_30 rfl (lv_at hl 1 rfl) ?_
    refine xget xcX6 X hP 1 1 xy1 (by decide) xf_X7_28 rfl dX7_lay_31 ?_
    refine lv_iload_n hx hb dX7_lay_34 rfl (lv_at hl 3 rfl) ?_
    obtain ⟨hi6, hm⟩ := xifn hm
    refine xiald X hP 3 xy3 hi6 dX7_lay_35 ?_
    refine lv_icmp_ge (tgt := 62) hx hb dX7_lay_36 (by decide) (fun c7 => ?_) (fun c7 => ?_)
    · have hm := xift c7 hm
      exact kX7_lay_62 X V k9 hk9 x2 x3 M _ _ _ hm hP hS (lv_sub hl [0, 1, 2, 3] rfl)
    · have hm := xiff c7 hm
      refine lv_aload_n hx hb dX7_lay_39 rfl (lv_at hl 0 rfl) ?_
      refine lv_iload_n hx hb dX7_lay_40 rfl (lv_at hl 3 rfl) ?_
      refine lv_aload_n hx hb dX7_lay_41 rfl (lv_at hl 1 rfl) ?_
      refine xget xcX6 X hP 1 0 xy1 (by decide) xf_X7_33 rfl dX7_lay_42 ?_
      refine lv_iload_n hx hb dX7_lay_45 rfl (lv_at hl 2 rfl) ?_
      obtain ⟨hi8, hm⟩ := xifn hm
      refine xiald X hP 2 xy2 hi8 dX7_lay_46 ?_
      refine lv_bipush (v := 8) hx hb dX7_lay_47 (by decide) ?_
      refine lv_iadd hx hb dX7_lay_49 ?_
      obtain ⟨v9, hg, hm⟩ := xbnd hm
      refine xcallV xm_X7_36 xt_X7_layLetter X hP hS (qX7_layLetter l w x3 ((M 2 x2.toNatClampNeg) + 8) M v9 hg) xy4 rfl ⟨Nat.le_of_ble_eq_true rfl, Nat.le_of_ble_eq_true rfl⟩ ⟨rfl, rfl⟩ hl.1 rfl (rest := []) rfl (Nat.le_of_ble_eq_true rfl) dX7_lay_50 ⟨Nat.zero_le _, Nat.zero_le _⟩ (fun H locs hP hS => ?_)
      refine W.eq (g2 := F0 m 53 ls []) rfl ?_
      refine lv_iinc (v := x2 + 1) (lv' := [(2, .int (x2 + 1)), (0, .ref (xa w 4)), (1, .ref (xa w 1)), (3, .int x3), (4, .int x4)]) hx hb dX7_lay_53 hl (k := 2) rfl rfl (by decide) rfl (fun ls hl => ?_)
      refine lv_iinc (v := x4 + 1) (lv' := [(4, .int (x4 + 1)), (2, .int (x2 + 1)), (0, .ref (xa w 4)), (1, .ref (xa w 1)), (3, .int x3)]) hx hb dX7_lay_56 hl (k := 4) rfl rfl (by decide) rfl (fun ls hl => ?_)
      refine lv_goto (tgt := 28) hx hb dX7_lay_59 (by decide) ?_
      exact ih (x2 + 1) x3 (x4 + 1) v9 _ _ _ hm hP hS (lv_sub hl [2, 3, 1, 4, 0] rfl)
def fX7_lay_9  : Nat → Int32 → Int32 → xM → Option (xM)
  | 0 => fun _ _ _ => none
  | n + 1 => fun x2 x3 M => if 8 ≤ x3 then (some M) else (if xin x3 8 then xlt (xs1 M 7 x3.toNatClampNeg (M 4 4)) fun M12 => fX7_lay_28 (fX7_lay_9 n) 4096 x2 x3 0 M12 else none)
theorem fX7_lay_9_s  (n : Nat) (x2 : Int32) (x3 : Int32) (M : xM) : fX7_lay_9  (n + 1) x2 x3 M = (if 8 ≤ x3 then (some M) else (if xin x3 8 then xlt (xs1 M 7 x3.toNatClampNeg (M 4 4)) fun M12 => fX7_lay_28 (fX7_lay_9 n) 4096 x2 x3 0 M12 else none)) := rfl
set_option maxHeartbeats 4000000 in
set_option maxRecDepth 100000 in
theorem kX7_lay_9 {p : Program} {l : Launch} {e : Env} {s : State} {m : MethodId} {args : Array Value} {below : List Frame} {meth : Method} {c : Code} {w : xT} (X : xX p s m args meth c cX7_lay 5 none RX7 w) (V : xM)  : ∀ (n : Nat) (x2 : Int32) (x3 : Int32) (M : xM) (H : Heap) (locs : List Loc) (ls : Array Slot), fX7_lay_9  n x2 x3 M = some V → xP w M H → xS w s H locs → lv_has ls 5 [(0, .ref (xa w 4)), (1, .ref (xa w 1)), (2, .int x2), (3, .int x3)] → W p l e { frames := 1, cells := 0, slots := 0, locals := 22 } s m args below meth c H locs 0 0 (xQ w none V below args s) (F0 m 9 ls []) := by
  have hx := X.1
  have hb := X.2.1
  have hown := X.2.2.2.2.2.1
  have hts := X.2.2.2.2.2.2.1
  intro n
  induction n with
  | zero => intro x2 x3 M H locs ls hm hP hS hl; exact xnon hm
  | succ n ih =>
    intro x2 x3 M H locs ls hm hP hS hl
    rw [fX7_lay_9_s] at hm
    refine lv_iload_n hx hb dX7_lay_9 rfl (lv_at hl 3 rfl) ?_
    refine lv_bipush (v := 8) hx hb dX7_lay_10 (by decide) ?_
    refine lv_icmp_ge (tgt := 93) hx hb dX7_lay_12 (by decide) (fun c10 => ?_) (fun c10 => ?_)
    · have hm := xift c10 hm
      obtain rfl := Option.some.inj hm
      exact xvret X hP hS dX7_lay_93
    · have hm := xiff c10 hm
      refine lv_aload_n hx hb dX7_lay_15 rfl (lv_at hl 0 rfl) ?_
      refine xget xcX7 X hP 4 2 xy4 (by decide) xf_X7_18 rfl dX7_lay_16 ?_
      refine lv_iload_n hx hb dX7_lay_19 rfl (lv_at hl 3 rfl) ?_
      refine lv_aload_n hx hb dX7_lay_20 rfl (lv_at hl 0 rfl) ?_
      refine xgeti xcX7 X hP 4 4 xy4 (by decide) xf_X7_24 rfl dX7_lay_21 ?_
      obtain ⟨hi11, hm⟩ := xifn hm
      refine xiast X hP hS 7 xy7 hi11 dX7_lay_24 (fun M12 H locs eM12 hP hS => ?_)
      have hm := xltE hm eM12
      refine lv_iconst (v := 0) hx hb dX7_lay_25 (by decide) ?_
      refine lv_istore (lv' := [(4, .int 0), (0, .ref (xa w 4)), (1, .ref (xa w 1)), (2, .int x2), (3, .int x3)]) hx hb dX7_lay_26 hl (by decide) rfl (fun ls hl => ?_)
      exact kX7_lay_28 X V (fX7_lay_9 n) ih 4096 x2 x3 0 M12 _ _ _ hm hP hS (lv_sub hl [1, 2, 3, 4, 0] rfl)
def fX7_lay  (M : xM) : Option (xM) := xlt (xs1 M 4 4 0) fun M13 => fX7_lay_9 4096 0 0 M13
theorem fX7_lay_s  (M : xM) : fX7_lay M = (xlt (xs1 M 4 4 0) fun M13 => fX7_lay_9 4096 0 0 M13) := rfl
set_option maxHeartbeats 4000000 in
set_option maxRecDepth 100000 in
theorem qX7_lay (l : Launch) (w : xT)  (M : xM) (V : xM) (hm : fX7_lay M = some V) : xC l yX7_lay (Cond.code yX7_lay cX7_lay 5 none) { frames := 1, cells := 0, slots := 0, locals := 22 } w [.ref (xa w 4), .ref (xa w 1)] M none V := by
  refine xC.of (by decide) (Nat.le_of_ble_eq_true rfl) ?_
  intro p e s m args below meth c ls X hP hS hl
  have hl : lv_has ls 5 [(0, .ref (xa w 4)), (1, .ref (xa w 1))] := hl
  have X : xX p s m args meth c cX7_lay 5 none RX7 w := X
  have hx := X.1
  have hb := X.2.1
  have hown := X.2.2.2.2.2.1
  have hts := X.2.2.2.2.2.2.1
  rw [fX7_lay_s] at hm
  refine lv_aload_n hx hb dX7_lay_0 rfl (lv_at hl 0 rfl) ?_
  refine lv_iconst (v := 0) hx hb dX7_lay_1 (by decide) ?_
  refine xputi xcX7 X hP hS 4 4 xy4 (by decide) xf_X7_24 rfl (tyX7_ok 4 (by decide)) rfl dX7_lay_2 (fun M13 H locs eM13 hP hS => ?_)
  have hm := xltE hm eM13
  refine lv_iconst (v := 0) hx hb dX7_lay_5 (by decide) ?_
  refine lv_istore_n (lv' := [(2, .int 0), (0, .ref (xa w 4)), (1, .ref (xa w 1))]) hx hb dX7_lay_6 rfl hl (by decide) rfl (fun ls hl => ?_)
  refine lv_iconst (v := 0) hx hb dX7_lay_7 (by decide) ?_
  refine lv_istore_n (lv' := [(3, .int 0), (2, .int 0), (0, .ref (xa w 4)), (1, .ref (xa w 1))]) hx hb dX7_lay_8 rfl hl (by decide) rfl (fun ls hl => ?_)
  exact kX7_lay_9 X V  4096 0 0 M13 _ _ _ hm hP hS (lv_sub hl [2, 3, 1, 0] rfl)
def fX4_markRises_89 (k19 : Int32 → Int32 → Int32 → Int32 → xM → Option (xM)) (x1 : Int32) (x2 : Int32) (x3 : Int32) (x4 : Int32) (M : xM) : Option (xM) := if xin (x2 + x4) 816 then xlt (xs1 M 16 (x2 + x4).toNatClampNeg (vp_nar .boolean x3)) fun M2 => k19 x1 x2 x3 (x4 + (-1)) M2 else none
theorem fX4_markRises_89_s (k19 : Int32 → Int32 → Int32 → Int32 → xM → Option (xM)) (x1 : Int32) (x2 : Int32) (x3 : Int32) (x4 : Int32) (M : xM) : fX4_markRises_89 k19 x1 x2 x3 x4 M = (if xin (x2 + x4) 816 then xlt (xs1 M 16 (x2 + x4).toNatClampNeg (vp_nar .boolean x3)) fun M2 => k19 x1 x2 x3 (x4 + (-1)) M2 else none) := rfl
set_option maxHeartbeats 4000000 in
set_option maxRecDepth 100000 in
theorem kX4_markRises_89 {p : Program} {l : Launch} {e : Env} {s : State} {m : MethodId} {args : Array Value} {below : List Frame} {meth : Method} {c : Code} {w : xT} (X : xX p s m args meth c cX4_markRises 5 none RX4 w) (V : xM) (k19 : Int32 → Int32 → Int32 → Int32 → xM → Option (xM)) (hk19 : ∀ (x1 : Int32) (x2 : Int32) (x3 : Int32) (x4 : Int32) (M : xM) (H : Heap) (locs : List Loc) (ls : Array Slot), k19 x1 x2 x3 x4 M = some V → xP w M H → xS w s H locs → lv_has ls 5 [(0, .ref (xa w 13)), (1, .int x1), (2, .int x2), (3, .int x3), (4, .int x4)] → W p l e { frames := 0, cells := 0, slots := 0, locals := 0 } s m args below meth c H locs 0 0 (xQ w none V below args s) (F0 m 19 ls [])) : ∀ (x1 : Int32) (x2 : Int32) (x3 : Int32) (x4 : Int32) (M : xM) (H : Heap) (locs : List Loc) (ls : Array Slot), fX4_markRises_89 k19 x1 x2 x3 x4 M = some V → xP w M H → xS w s H locs → lv_has ls 5 [(0, .ref (xa w 13)), (1, .int x1), (2, .int x2), (3, .int x3), (4, .int x4)] → W p l e { frames := 0, cells := 0, slots := 0, locals := 0 } s m args below meth c H locs 0 0 (xQ w none V below args s) (F0 m 89 ls []) := by
  have hx := X.1
  have hb := X.2.1
  have hown := X.2.2.2.2.2.1
  have hts := X.2.2.2.2.2.2.1
  intro x1 x2 x3 x4 M H locs ls hm hP hS hl
  rw [fX4_markRises_89_s] at hm
  refine lv_aload_n hx hb dX4_markRises_89 rfl (lv_at hl 0 rfl) ?_
  refine xget xcX4 X hP 13 2 xy13 (by decide) xf_X4_18 rfl dX4_markRises_90 ?_
  refine lv_iload_n hx hb dX4_markRises_93 rfl (lv_at hl 2 rfl) ?_
  refine lv_iload hx hb dX4_markRises_94 (lv_at hl 4 rfl) ?_
  refine lv_iadd hx hb dX4_markRises_96 ?_
  refine lv_iload_n hx hb dX4_markRises_97 rfl (lv_at hl 3 rfl) ?_
  obtain ⟨hi1, hm⟩ := xifn hm
  refine xzast X hP hS 16 xy16 hi1 dX4_markRises_98 (fun M2 H locs eM2 hP hS => ?_)
  have hm := xltE hm eM2
  refine lv_iinc (v := x4 + (-1)) (lv' := [(4, .int (x4 + (-1))), (0, .ref (xa w 13)), (1, .int x1), (2, .int x2), (3, .int x3)]) hx hb dX4_markRises_99 hl (k := 4) rfl rfl (by decide) rfl (fun ls hl => ?_)
  refine lv_goto (tgt := 19) hx hb dX4_markRises_102 (by decide) ?_
  exact hk19 x1 x2 x3 (x4 + (-1)) M2 _ _ _ hm hP hS (lv_sub hl [1, 2, 3, 4, 0] rfl)
def fX4_markRises_88 (k19 : Int32 → Int32 → Int32 → Int32 → xM → Option (xM)) (x1 : Int32) (x2 : Int32) (x4 : Int32) (s0 : Int32) (M : xM) : Option (xM) := fX4_markRises_89 k19 x1 x2 s0 x4 M
theorem fX4_markRises_88_s (k19 : Int32 → Int32 → Int32 → Int32 → xM → Option (xM)) (x1 : Int32) (x2 : Int32) (x4 : Int32) (s0 : Int32) (M : xM) : fX4_markRises_88 k19 x1 x2 x4 s0 M = (fX4_markRises_89 k19 x1 x2 s0 x4 M) := rfl
set_option maxHeartbeats 4000000 in
set_option maxRecDepth 100000 in
theorem kX4_markRises_88 {p : Program} {l : Launch} {e : Env} {s : State} {m : MethodId} {args : Array Value} {below : List Frame} {meth : Method} {c : Code} {w : xT} (X : xX p s m args meth c cX4_markRises 5 none RX4 w) (V : xM) (k19 : Int32 → Int32 → Int32 → Int32 → xM → Option (xM)) (hk19 : ∀ (x1 : Int32) (x2 : Int32) (x3 : Int32) (x4 : Int32) (M : xM) (H : Heap) (locs : List Loc) (ls : Array Slot), k19 x1 x2 x3 x4 M = some V → xP w M H → xS w s H locs → lv_has ls 5 [(0, .ref (xa w 13)), (1, .int x1), (2, .int x2), (3, .int x3), (4, .int x4)] → W p l e { frames := 0, cells := 0, slots := 0, locals := 0 } s m args below meth c H locs 0 0 (xQ w none V below args s) (F0 m 19 ls [])) : ∀ (x1 : Int32) (x2 : Int32) (x4 : Int32) (s0 : Int32) (M : xM) (H : Heap) (locs : List Loc) (ls : Array Slot), fX4_markRises_88 k19 x1 x2 x4 s0 M = some V → xP w M H → xS w s H locs → lv_has ls 5 [(0, .ref (xa w 13)), (1, .int x1), (2, .int x2), (4, .int x4)] → W p l e { frames := 0, cells := 0, slots := 0, locals := 0 } s m args below meth c H locs 0 0 (xQ w none V below args s) (F0 m 88 ls [.int s0]) := by
  have hx := X.1
  have hb := X.2.1
  have hown := X.2.2.2.2.2.1
  have hts := X.2.2.2.2.2.2.1
  intro x1 x2 x4 s0 M H locs ls hm hP hS hl
  rw [fX4_markRises_88_s] at hm
  refine lv_istore_n (lv' := [(3, .int s0), (0, .ref (xa w 13)), (1, .int x1), (2, .int x2), (4, .int x4)]) hx hb dX4_markRises_88 rfl hl (by decide) rfl (fun ls hl => ?_)
  exact kX4_markRises_89 X V k19 hk19 x1 x2 s0 x4 M _ _ _ hm hP hS (lv_sub hl [1, 2, 3, 0, 4] rfl)
def fX4_markRises_19  : Nat → Int32 → Int32 → Int32 → Int32 → xM → Option (xM)
  | 0 => fun _ _ _ _ _ => none
  | n + 1 => fun x1 x2 x3 x4 M => if x4 < 0 then (some M) else (if xin x1 11 then if (M 19 x1.toNatClampNeg) ≤ (x4 + 1) then (fX4_markRises_89 (fX4_markRises_19 n) x1 x2 x3 x4 M) else (if xin (x2 + x4) 816 then if xin ((x2 + x4) + 1) 816 then if (M 15 (x2 + x4).toNatClampNeg) = (M 15 ((x2 + x4) + 1).toNatClampNeg) then (fX4_markRises_89 (fX4_markRises_19 n) x1 x2 x3 x4 M) else (if xin (x2 + x4) 816 then if xin ((x2 + x4) + 1) 816 then if (M 15 ((x2 + x4) + 1).toNatClampNeg) ≤ (M 15 (x2 + x4).toNatClampNeg) then (fX4_markRises_88 (fX4_markRises_19 n) x1 x2 x4 0 M) else (fX4_markRises_88 (fX4_markRises_19 n) x1 x2 x4 1 M) else none else none) else none else none) else none)
theorem fX4_markRises_19_s  (n : Nat) (x1 : Int32) (x2 : Int32) (x3 : Int32) (x4 : Int32) (M : xM) : fX4_markRises_19  (n + 1) x1 x2 x3 x4 M = (if x4 < 0 then (some M) else (if xin x1 11 then if (M 19 x1.toNatClampNeg) ≤ (x4 + 1) then (fX4_markRises_89 (fX4_markRises_19 n) x1 x2 x3 x4 M) else (if xin (x2 + x4) 816 then if xin ((x2 + x4) + 1) 816 then if (M 15 (x2 + x4).toNatClampNeg) = (M 15 ((x2 + x4) + 1).toNatClampNeg) then (fX4_markRises_89 (fX4_markRises_19 n) x1 x2 x3 x4 M) else (if xin (x2 + x4) 816 then if xin ((x2 + x4) + 1) 816 then if (M 15 ((x2 + x4) + 1).toNatClampNeg) ≤ (M 15 (x2 + x4).toNatClampNeg) then (fX4_markRises_88 (fX4_markRises_19 n) x1 x2 x4 0 M) else (fX4_markRises_88 (fX4_markRises_19 n) x1 x2 x4 1 M) else none else none) else none else none) else none)) := rfl
set_option maxHeartbeats 4000000 in
set_option maxRecDepth 100000 in
theorem kX4_markRises_19 {p : Program} {l : Launch} {e : Env} {s : State} {m : MethodId} {args : Array Value} {below : List Frame} {meth : Method} {c : Code} {w : xT} (X : xX p s m args meth c cX4_markRises 5 none RX4 w) (V : xM)  : ∀ (n : Nat) (x1 : Int32) (x2 : Int32) (x3 : Int32) (x4 : Int32) (M : xM) (H : Heap) (locs : List Loc) (ls : Array Slot), fX4_markRises_19  n x1 x2 x3 x4 M = some V → xP w M H → xS w s H locs → lv_has ls 5 [(0, .ref (xa w 13)), (1, .int x1), (2, .int x2), (3, .int x3), (4, .int x4)] → W p l e { frames := 0, cells := 0, slots := 0, locals := 0 } s m args below meth c H locs 0 0 (xQ w none V below args s) (F0 m 19 ls []) := by
  have hx := X.1
  have hb := X.2.1
  have hown := X.2.2.2.2.2.1
  have hts := X.2.2.2.2.2.2.1
  intro n
  induction n with
  | zero => intro x1 x2 x3 x4 M H locs ls hm hP hS hl; exact xnon hm
  | succ n ih =>
    intro x1 x2 x3 x4 M H locs ls hm hP hS hl
    rw [fX4_markRises_19_s] at hm
    refine lv_iload hx hb dX4_markRises_19 (lv_at hl 4 rfl) ?_
    refine lv_if_lt (tgt := 105) hx hb dX4_markRises_21 (by decide) (fun c3 => ?_) (fun c3 => ?_)
    · have hm := xift c3 hm
      obtain rfl := Option.some.inj hm
      exact xvret X hP hS dX4_markRises_105
    · have hm := xiff c3 hm
      refine lv_iload hx hb dX4_markRises_24 (lv_at hl 4 rfl) ?_
      refine lv_iconst (v := 1) hx hb dX4_markRises_26 (by decide) ?_
      refine lv_iadd hx hb dX4_markRises_27 ?_
      refine lv_aload_n hx hb dX4_markRises_28 rfl (lv_at hl 0 rfl) ?_
      refine xget xcX4 X hP 13 5 xy13 (by decide) xf_X4_28 rfl dX4_markRises_29 ?_
      refine lv_iload_n hx hb dX4_markRises_32 rfl (lv_at hl 1 rfl) ?_
      obtain ⟨hi4, hm⟩ := xifn hm
      refine xiald X hP 19 xy19 hi4 dX4_markRises_33 ?_
      refine lv_icmp_ge (tgt := 89) hx hb dX4_markRises_34 (by decide) (fun c5 => ?_) (fun c5 => ?_)
      · have hm := xift c5 hm
        exact kX4_markRises_89 X V (fX4_markRises_19 n) ih x1 x2 x3 x4 M _ _ _ hm hP hS (lv_sub hl [0, 1, 2, 3, 4] rfl)
      · have hm := xiff c5 hm
        refine lv_aload_n hx hb dX4_markRises_37 rfl (lv_at hl 0 rfl) ?_
        refine xget xcX4 X hP 13 1 xy13 (by decide) xf_X4_15 rfl dX4_markRises_38 ?_
        refine lv_iload_n hx hb dX4_markRises_41 rfl (lv_at hl 2 rfl) ?_
        refine lv_iload hx hb dX4_markRises_42 (lv_at hl 4 rfl) ?_
        refine lv_iadd hx hb dX4_markRises_44 ?_
        obtain ⟨hi6, hm⟩ := xifn hm
        refine xiald X hP 15 xy15 hi6 dX4_markRises_45 ?_
        refine lv_aload_n hx hb dX4_markRises_46 rfl (lv_at hl 0 rfl) ?_
        refine xget xcX4 X hP 13 1 xy13 (by decide) xf_X4_15 rfl dX4_markRises_47 ?_
        refine lv_iload_n hx hb dX4_markRises_50 rfl (lv_at hl 2 rfl) ?_
        refine lv_iload hx hb dX4_markRises_51 (lv_at hl 4 rfl) ?_
        refine lv_iadd hx hb dX4_markRises_53 ?_
        refine lv_iconst (v := 1) hx hb dX4_markRises_54 (by decide) ?_
        refine lv_iadd hx hb dX4_markRises_55 ?_
        obtain ⟨hi7, hm⟩ := xifn hm
        refine xiald X hP 15 xy15 hi7 dX4_markRises_56 ?_
        refine lv_icmp_eq (tgt := 89) hx hb dX4_markRises_57 (by decide) (fun c8 => ?_) (fun c8 => ?_)
        · have hm := xift c8 hm
          exact kX4_markRises_89 X V (fX4_markRises_19 n) ih x1 x2 x3 x4 M _ _ _ hm hP hS (lv_sub hl [0, 1, 2, 3, 4] rfl)
        · have hm := xiff c8 hm
          refine lv_aload_n hx hb dX4_markRises_60 rfl (lv_at hl 0 rfl) ?_
          refine xget xcX4 X hP 13 1 xy13 (by decide) xf_X4_15 rfl dX4_markRises_61 ?_
          refine lv_iload_n hx hb dX4_markRises_64 rfl (lv_at hl 2 rfl) ?_
          refine lv_iload hx hb dX4_markRises_65 (lv_at hl 4 rfl) ?_
          refine lv_iadd hx hb dX4_markRises_67 ?_
          obtain ⟨hi9, hm⟩ := xifn hm
          refine xiald X hP 15 xy15 hi9 dX4_markRises_68 ?_
          refine lv_aload_n hx hb dX4_markRises_69 rfl (lv_at hl 0 rfl) ?_
          refine xget xcX4 X hP 13 1 xy13 (by decide) xf_X4_15 rfl dX4_markRises_70 ?_
          refine lv_iload_n hx hb dX4_markRises_73 rfl (lv_at hl 2 rfl) ?_
          refine lv_iload hx hb dX4_markRises_74 (lv_at hl 4 rfl) ?_
          refine lv_iadd hx hb dX4_markRises_76 ?_
          refine lv_iconst (v := 1) hx hb dX4_markRises_77 (by decide) ?_
          refine lv_iadd hx hb dX4_markRises_78 ?_
          obtain ⟨hi10, hm⟩ := xifn hm
          refine xiald X hP 15 xy15 hi10 dX4_markRises_79 ?_
          refine lv_icmp_ge (tgt := 87) hx hb dX4_markRises_80 (by decide) (fun c11 => ?_) (fun c11 => ?_)
          · have hm := xift c11 hm
            refine lv_iconst (v := 0) hx hb dX4_markRises_87 (by decide) ?_
            exact kX4_markRises_88 X V (fX4_markRises_19 n) ih x1 x2 x4 0 M _ _ _ hm hP hS (lv_sub hl [0, 1, 2, 4] rfl)
          · have hm := xiff c11 hm
            refine lv_iconst (v := 1) hx hb dX4_markRises_83 (by decide) ?_
            refine lv_goto (tgt := 88) hx hb dX4_markRises_84 (by decide) ?_
            exact kX4_markRises_88 X V (fX4_markRises_19 n) ih x1 x2 x4 1 M _ _ _ hm hP hS (lv_sub hl [0, 1, 2, 4] rfl)
def fX4_markRises (x1 : Int32) (M : xM) : Option (xM) := if xin x1 11 then if xin x1 11 then xlt ((M 19 x1.toNatClampNeg) - 1) fun y14 => fX4_markRises_19 4096 x1 (M 18 x1.toNatClampNeg) 0 y14 M else none else none
theorem fX4_markRises_s (x1 : Int32) (M : xM) : fX4_markRises x1 M = (if xin x1 11 then if xin x1 11 then xlt ((M 19 x1.toNatClampNeg) - 1) fun y14 => fX4_markRises_19 4096 x1 (M 18 x1.toNatClampNeg) 0 y14 M else none else none) := rfl
set_option maxHeartbeats 4000000 in
set_option maxRecDepth 100000 in
theorem qX4_markRises (l : Launch) (w : xT) (x1 : Int32) (M : xM) (V : xM) (hm : fX4_markRises x1 M = some V) : xC l yX4_markRises (Cond.code yX4_markRises cX4_markRises 5 none) { frames := 0, cells := 0, slots := 0, locals := 0 } w [.ref (xa w 13), .int x1] M none V := by
  refine xC.of (by decide) (Nat.le_of_ble_eq_true rfl) ?_
  intro p e s m args below meth c ls X hP hS hl
  have hl : lv_has ls 5 [(0, .ref (xa w 13)), (1, .int x1)] := hl
  have X : xX p s m args meth c cX4_markRises 5 none RX4 w := X
  have hx := X.1
  have hb := X.2.1
  have hown := X.2.2.2.2.2.1
  have hts := X.2.2.2.2.2.2.1
  rw [fX4_markRises_s] at hm
  refine lv_aload_n hx hb dX4_markRises_0 rfl (lv_at hl 0 rfl) ?_
  refine xget xcX4 X hP 13 4 xy13 (by decide) xf_X4_25 rfl dX4_markRises_1 ?_
  refine lv_iload_n hx hb dX4_markRises_4 rfl (lv_at hl 1 rfl) ?_
  obtain ⟨hi12, hm⟩ := xifn hm
  refine xiald X hP 18 xy18 hi12 dX4_markRises_5 ?_
  refine lv_istore_n (lv' := [(2, .int (M 18 x1.toNatClampNeg)), (0, .ref (xa w 13)), (1, .int x1)]) hx hb dX4_markRises_6 rfl hl (by decide) rfl (fun ls hl => ?_)
  refine lv_iconst (v := 0) hx hb dX4_markRises_7 (by decide) ?_
  refine lv_istore_n (lv' := [(3, .int 0), (2, .int (M 18 x1.toNatClampNeg)), (0, .ref (xa w 13)), (1, .int x1)]) hx hb dX4_markRises_8 rfl hl (by decide) rfl (fun ls hl => ?_)
  refine lv_aload_n hx hb dX4_markRises_9 rfl (lv_at hl 2 rfl) ?_
  refine xget xcX4 X hP 13 5 xy13 (by decide) xf_X4_28 rfl dX4_markRises_10 ?_
  refine lv_iload_n hx hb dX4_markRises_13 rfl (lv_at hl 3 rfl) ?_
  obtain ⟨hi13, hm⟩ := xifn hm
  refine xiald X hP 19 xy19 hi13 dX4_markRises_14 ?_
  refine lv_iconst (v := 1) hx hb dX4_markRises_15 (by decide) ?_
  refine lv_isub hx hb dX4_markRises_16 ?_
  refine lv_topi (fun y14 ey14 => ?_)
  have hm := xltE hm ey14
  refine lv_istore (lv' := [(4, .int y14), (3, .int 0), (2, .int (M 18 x1.toNatClampNeg)), (0, .ref (xa w 13)), (1, .int x1)]) hx hb dX4_markRises_17 hl (by decide) rfl (fun ls hl => ?_)
  exact kX4_markRises_19 X V  4096 x1 (M 18 x1.toNatClampNeg) 0 y14 M _ _ _ hm hP hS (lv_sub hl [3, 4, 2, 1, 0] rfl)
def fX4_isTurn (x1 : Int32) (x2 : Int32) (M0 : xM) : Option (Int32) := if xin x1 11 then if x2 ≤ 0 then (some 0) else (if xin ((M0 18 x1.toNatClampNeg) + x2) 816 then if (M0 16 ((M0 18 x1.toNatClampNeg) + x2).toNatClampNeg) = 0 then (some 0) else (if xin (((M0 18 x1.toNatClampNeg) + x2) - 1) 816 then if (M0 16 (((M0 18 x1.toNatClampNeg) + x2) - 1).toNatClampNeg) = 0 then (some 1) else (some 0) else none) else none) else none
theorem fX4_isTurn_s (x1 : Int32) (x2 : Int32) (M0 : xM) : fX4_isTurn x1 x2 M0 = (if xin x1 11 then if x2 ≤ 0 then (some 0) else (if xin ((M0 18 x1.toNatClampNeg) + x2) 816 then if (M0 16 ((M0 18 x1.toNatClampNeg) + x2).toNatClampNeg) = 0 then (some 0) else (if xin (((M0 18 x1.toNatClampNeg) + x2) - 1) 816 then if (M0 16 (((M0 18 x1.toNatClampNeg) + x2) - 1).toNatClampNeg) = 0 then (some 1) else (some 0) else none) else none) else none) := rfl
set_option maxHeartbeats 4000000 in
set_option maxRecDepth 100000 in
theorem qX4_isTurn (l : Launch) (w : xT) (x1 : Int32) (x2 : Int32) (M0 : xM) (V : Int32) (hm : fX4_isTurn x1 x2 M0 = some V) : xC l yX4_isTurn (Cond.code yX4_isTurn cX4_isTurn 4 (some .boolean)) { frames := 0, cells := 0, slots := 0, locals := 0 } w [.ref (xa w 13), .int x1, .int x2] M0 (some (.int V)) M0 := by
  refine xC.of (by decide) (Nat.le_of_ble_eq_true rfl) ?_
  intro p e s m args below meth c ls X hP hS hl
  have hl : lv_has ls 4 [(0, .ref (xa w 13)), (1, .int x1), (2, .int x2)] := hl
  have X : xX p s m args meth c cX4_isTurn 4 (some .boolean) RX4 w := X
  have hx := X.1
  have hb := X.2.1
  have hown := X.2.2.2.2.2.1
  have hts := X.2.2.2.2.2.2.1
  rw [fX4_isTurn_s] at hm
  refine lv_aload_n hx hb dX4_isTurn_0 rfl (lv_at hl 0 rfl) ?_
  refine xget xcX4 X hP 13 4 xy13 (by decide) xf_X4_25 rfl dX4_isTurn_1 ?_
  refine lv_iload_n hx hb dX4_isTurn_4 rfl (lv_at hl 1 rfl) ?_
  obtain ⟨hi1, hm⟩ := xifn hm
  refine xiald X hP 18 xy18 hi1 dX4_isTurn_5 ?_
  refine lv_istore_n (lv' := [(3, .int (M0 18 x1.toNatClampNeg)), (0, .ref (xa w 13)), (1, .int x1), (2, .int x2)]) hx hb dX4_isTurn_6 rfl hl (by decide) rfl (fun ls hl => ?_)
  refine lv_iload_n hx hb dX4_isTurn_7 rfl (lv_at hl 3 rfl) ?_
  refine lv_if_le (tgt := 39) hx hb dX4_isTurn_8 (by decide) (fun c2 => ?_) (fun c2 => ?_)
  · have hm := xift c2 hm
    refine lv_iconst (v := 0) hx hb dX4_isTurn_39 (by decide) ?_
    obtain rfl := Option.some.inj hm
    exact xzret X hP hS rfl dX4_isTurn_40
  · have hm := xiff c2 hm
    refine lv_aload_n hx hb dX4_isTurn_11 rfl (lv_at hl 1 rfl) ?_
    refine xget xcX4 X hP 13 2 xy13 (by decide) xf_X4_18 rfl dX4_isTurn_12 ?_
    refine lv_iload_n hx hb dX4_isTurn_15 rfl (lv_at hl 0 rfl) ?_
    refine lv_iload_n hx hb dX4_isTurn_16 rfl (lv_at hl 3 rfl) ?_
    refine lv_iadd hx hb dX4_isTurn_17 ?_
    obtain ⟨hi3, hm⟩ := xifn hm
    refine xzald X hP 16 xy16 hi3 dX4_isTurn_18 ?_
    refine lv_if_eq (tgt := 39) hx hb dX4_isTurn_19 (by decide) (fun c4 => ?_) (fun c4 => ?_)
    · have hm := xift c4 hm
      refine lv_iconst (v := 0) hx hb dX4_isTurn_39 (by decide) ?_
      obtain rfl := Option.some.inj hm
      exact xzret X hP hS rfl dX4_isTurn_40
    · have hm := xiff c4 hm
      refine lv_aload_n hx hb dX4_isTurn_22 rfl (lv_at hl 1 rfl) ?_
      refine xget xcX4 X hP 13 2 xy13 (by decide) xf_X4_18 rfl dX4_isTurn_23 ?_
      refine lv_iload_n hx hb dX4_isTurn_26 rfl (lv_at hl 0 rfl) ?_
      refine lv_iload_n hx hb dX4_isTurn_27 rfl (lv_at hl 3 rfl) ?_
      refine lv_iadd hx hb dX4_isTurn_28 ?_
      refine lv_iconst (v := 1) hx hb dX4_isTurn_29 (by decide) ?_
      refine lv_isub hx hb dX4_isTurn_30 ?_
      obtain ⟨hi5, hm⟩ := xifn hm
      refine xzald X hP 16 xy16 hi5 dX4_isTurn_31 ?_
      refine lv_if_ne (tgt := 39) hx hb dX4_isTurn_32 (by decide) (fun c6 => ?_) (fun c6 => ?_)
      · have hm := xiff c6 hm
        refine lv_iconst (v := 0) hx hb dX4_isTurn_39 (by decide) ?_
        obtain rfl := Option.some.inj hm
        exact xzret X hP hS rfl dX4_isTurn_40
      · have hm := xift c6 hm
        refine lv_iconst (v := 1) hx hb dX4_isTurn_35 (by decide) ?_
        refine lv_goto (tgt := 40) hx hb dX4_isTurn_36 (by decide) ?_
        obtain rfl := Option.some.inj hm
        exact xzret X hP hS rfl dX4_isTurn_40
def fX4_collectTurns_39 (k5 : Int32 → Int32 → Int32 → Int32 → xM → Option (Int32 × xM)) (x1 : Int32) (x2 : Int32) (x3 : Int32) (x4 : Int32) (M : xM) : Option (Int32 × xM) := k5 x1 x2 x3 (x4 + 1) M
theorem fX4_collectTurns_39_s (k5 : Int32 → Int32 → Int32 → Int32 → xM → Option (Int32 × xM)) (x1 : Int32) (x2 : Int32) (x3 : Int32) (x4 : Int32) (M : xM) : fX4_collectTurns_39 k5 x1 x2 x3 x4 M = (k5 x1 x2 x3 (x4 + 1) M) := rfl
set_option maxHeartbeats 4000000 in
set_option maxRecDepth 100000 in
theorem kX4_collectTurns_39 {p : Program} {l : Launch} {e : Env} {s : State} {m : MethodId} {args : Array Value} {below : List Frame} {meth : Method} {c : Code} {w : xT} (X : xX p s m args meth c cX4_collectTurns 5 (some .int) RX4 w) (V : Int32 × xM) (k5 : Int32 → Int32 → Int32 → Int32 → xM → Option (Int32 × xM)) (hk5 : ∀ (x1 : Int32) (x2 : Int32) (x3 : Int32) (x4 : Int32) (M : xM) (H : Heap) (locs : List Loc) (ls : Array Slot), k5 x1 x2 x3 x4 M = some V → xP w M H → xS w s H locs → lv_has ls 5 [(0, .ref (xa w 13)), (1, .int x1), (2, .int x2), (3, .int x3), (4, .int x4)] → W p l e { frames := 1, cells := 0, slots := 0, locals := 23 } s m args below meth c H locs 0 0 (xQ w (some (.int V.1)) V.2 below args s) (F0 m 5 ls [])) : ∀ (x1 : Int32) (x2 : Int32) (x3 : Int32) (x4 : Int32) (M : xM) (H : Heap) (locs : List Loc) (ls : Array Slot), fX4_collectTurns_39 k5 x1 x2 x3 x4 M = some V → xP w M H → xS w s H locs → lv_has ls 5 [(0, .ref (xa w 13)), (1, .int x1), (2, .int x2), (3, .int x3), (4, .int x4)] → W p l e { frames := 1, cells := 0, slots := 0, locals := 23 } s m args below meth c H locs 0 0 (xQ w (some (.int V.1)) V.2 below args s) (F0 m 39 ls []) := by
  have hx := X.1
  have hb := X.2.1
  have hown := X.2.2.2.2.2.1
  have hts := X.2.2.2.2.2.2.1
  intro x1 x2 x3 x4 M H locs ls hm hP hS hl
  rw [fX4_collectTurns_39_s] at hm
  refine lv_iinc (v := x4 + 1) (lv' := [(4, .int (x4 + 1)), (0, .ref (xa w 13)), (1, .int x1), (2, .int x2), (3, .int x3)]) hx hb dX4_collectTurns_39 hl (k := 4) rfl rfl (by decide) rfl (fun ls hl => ?_)
  refine lv_goto (tgt := 5) hx hb dX4_collectTurns_42 (by decide) ?_
  exact hk5 x1 x2 x3 (x4 + 1) M _ _ _ hm hP hS (lv_sub hl [1, 2, 3, 4, 0] rfl)
def fX4_collectTurns_5  : Nat → Int32 → Int32 → Int32 → Int32 → xM → Option (Int32 × xM)
  | 0 => fun _ _ _ _ _ => none
  | n + 1 => fun x1 x2 x3 x4 M => if xin x1 11 then if (M 19 x1.toNatClampNeg) ≤ x4 then (some (x3, M)) else ((fX4_isTurn x1 x4 M).bind fun v3 => if v3 = 0 then (fX4_collectTurns_39 (fX4_collectTurns_5 n) x1 x2 x3 x4 M) else (if xin (x2 + x3) 816 then xlt (xs1 M 17 (x2 + x3).toNatClampNeg x4) fun M6 => fX4_collectTurns_39 (fX4_collectTurns_5 n) x1 x2 (x3 + 1) x4 M6 else none)) else none
theorem fX4_collectTurns_5_s  (n : Nat) (x1 : Int32) (x2 : Int32) (x3 : Int32) (x4 : Int32) (M : xM) : fX4_collectTurns_5  (n + 1) x1 x2 x3 x4 M = (if xin x1 11 then if (M 19 x1.toNatClampNeg) ≤ x4 then (some (x3, M)) else ((fX4_isTurn x1 x4 M).bind fun v3 => if v3 = 0 then (fX4_collectTurns_39 (fX4_collectTurns_5 n) x1 x2 x3 x4 M) else (if xin (x2 + x3) 816 then xlt (xs1 M 17 (x2 + x3).toNatClampNeg x4) fun M6 => fX4_collectTurns_39 (fX4_collectTurns_5 n) x1 x2 (x3 + 1) x4 M6 else none)) else none) := rfl
set_option maxHeartbeats 4000000 in
set_option maxRecDepth 100000 in
theorem kX4_collectTurns_5 {p : Program} {l : Launch} {e : Env} {s : State} {m : MethodId} {args : Array Value} {below : List Frame} {meth : Method} {c : Code} {w : xT} (X : xX p s m args meth c cX4_collectTurns 5 (some .int) RX4 w) (V : Int32 × xM)  : ∀ (n : Nat) (x1 : Int32) (x2 : Int32) (x3 : Int32) (x4 : Int32) (M : xM) (H : Heap) (locs : List Loc) (ls : Array Slot), fX4_collectTurns_5  n x1 x2 x3 x4 M = some V → xP w M H → xS w s H locs → lv_has ls 5 [(0, .ref (xa w 13)), (1, .int x1), (2, .int x2), (3, .int x3), (4, .int x4)] → W p l e { frames := 1, cells := 0, slots := 0, locals := 23 } s m args below meth c H locs 0 0 (xQ w (some (.int V.1)) V.2 below args s) (F0 m 5 ls []) := by
  have hx := X.1
  have hb := X.2.1
  have hown := X.2.2.2.2.2.1
  have hts := X.2.2.2.2.2.2.1
  intro n
  induction n with
  | zero => intro x1 x2 x3 x4 M H locs ls hm hP hS hl; exact xnon hm
  | succ n ih =>
    intro x1 x2 x3 x4 M H locs ls hm hP hS hl
    rw [fX4_collectTurns_5_s] at hm
    refine lv_iload hx hb dX4_collectTurns_5 (lv_at hl 4 rfl) ?_
    refine lv_aload_n hx hb dX4_collectTurns_7 rfl (lv_at hl 0 rfl) ?_
    refine xget xcX4 X hP 13 5 xy13 (by decide) xf_X4_28 rfl dX4_collectTurns_8 ?_
    refine lv_iload_n hx hb dX4_collectTurns_11 rfl (lv_at hl 1 rfl) ?_
    obtain ⟨hi1, hm⟩ := xifn hm
    refine xiald X hP 19 xy19 hi1 dX4_collectTurns_12 ?_
    refine lv_icmp_ge (tgt := 45) hx hb dX4_collectTurns_13 (by decide) (fun c2 => ?_) (fun c2 => ?_)
    · have hm := xift c2 hm
      refine lv_iload_n hx hb dX4_collectTurns_45 rfl (lv_at hl 3 rfl) ?_
      obtain rfl := Option.some.inj hm
      exact xiret X hP hS dX4_collectTurns_46
    · have hm := xiff c2 hm
      refine lv_aload_n hx hb dX4_collectTurns_16 rfl (lv_at hl 0 rfl) ?_
      refine lv_iload_n hx hb dX4_collectTurns_17 rfl (lv_at hl 1 rfl) ?_
      refine lv_iload hx hb dX4_collectTurns_18 (lv_at hl 4 rfl) ?_
      obtain ⟨v3, hg, hm⟩ := xbnd hm
      refine xcallV xm_X4_77 xt_X4_isTurn X hP hS (qX4_isTurn l w x1 x4 M v3 hg) xy13 rfl ⟨Nat.le_of_ble_eq_true rfl, Nat.le_of_ble_eq_true rfl⟩ ⟨rfl, rfl⟩ hl.1 rfl (rest := []) rfl (Nat.le_of_ble_eq_true rfl) dX4_collectTurns_20 ⟨Nat.zero_le _, Nat.zero_le _⟩ (fun H locs hP hS => ?_)
      refine W.eq (g2 := F0 m 23 ls [.int v3]) rfl ?_
      refine lv_if_eq (tgt := 39) hx hb dX4_collectTurns_23 (by decide) (fun c4 => ?_) (fun c4 => ?_)
      · have hm := xift c4 hm
        exact kX4_collectTurns_39 X V (fX4_collectTurns_5 n) ih x1 x2 x3 x4 M _ _ _ hm hP hS (lv_sub hl [0, 1, 2, 3, 4] rfl)
      · have hm := xiff c4 hm
        refine lv_aload_n hx hb dX4_collectTurns_26 rfl (lv_at hl 0 rfl) ?_
        refine xget xcX4 X hP 13 3 xy13 (by decide) xf_X4_22 rfl dX4_collectTurns_27 ?_
        refine lv_iload_n hx hb dX4_collectTurns_30 rfl (lv_at hl 2 rfl) ?_
        refine lv_iload_n hx hb dX4_collectTurns_31 rfl (lv_at hl 3 rfl) ?_
        refine lv_iadd hx hb dX4_collectTurns_32 ?_
        refine lv_iload hx hb dX4_collectTurns_33 (lv_at hl 4 rfl) ?_
        obtain ⟨hi5, hm⟩ := xifn hm
        refine xiast X hP hS 17 xy17 hi5 dX4_collectTurns_35 (fun M6 H locs eM6 hP hS => ?_)
        have hm := xltE hm eM6
        refine lv_iinc (v := x3 + 1) (lv' := [(3, .int (x3 + 1)), (0, .ref (xa w 13)), (1, .int x1), (2, .int x2), (4, .int x4)]) hx hb dX4_collectTurns_36 hl (k := 3) rfl rfl (by decide) rfl (fun ls hl => ?_)
        exact kX4_collectTurns_39 X V (fX4_collectTurns_5 n) ih x1 x2 (x3 + 1) x4 M6 _ _ _ hm hP hS (lv_sub hl [1, 2, 3, 0, 4] rfl)
def fX4_collectTurns (x1 : Int32) (x2 : Int32) (M : xM) : Option (Int32 × xM) := fX4_collectTurns_5 4096 x1 x2 0 1 M
theorem fX4_collectTurns_s (x1 : Int32) (x2 : Int32) (M : xM) : fX4_collectTurns x1 x2 M = (fX4_collectTurns_5 4096 x1 x2 0 1 M) := rfl
set_option maxHeartbeats 4000000 in
set_option maxRecDepth 100000 in
theorem qX4_collectTurns (l : Launch) (w : xT) (x1 : Int32) (x2 : Int32) (M : xM) (V : Int32 × xM) (hm : fX4_collectTurns x1 x2 M = some V) : xC l yX4_collectTurns (Cond.code yX4_collectTurns cX4_collectTurns 5 (some .int)) { frames := 1, cells := 0, slots := 0, locals := 23 } w [.ref (xa w 13), .int x1, .int x2] M (some (.int V.1)) V.2 := by
  refine xC.of (by decide) (Nat.le_of_ble_eq_true rfl) ?_
  intro p e s m args below meth c ls X hP hS hl
  have hl : lv_has ls 5 [(0, .ref (xa w 13)), (1, .int x1), (2, .int x2)] := hl
  have X : xX p s m args meth c cX4_collectTurns 5 (some .int) RX4 w := X
  have hx := X.1
  have hb := X.2.1
  have hown := X.2.2.2.2.2.1
  have hts := X.2.2.2.2.2.2.1
  rw [fX4_collectTurns_s] at hm
  refine lv_iconst (v := 0) hx hb dX4_collectTurns_0 (by decide) ?_
  refine lv_istore_n (lv' := [(3, .int 0), (0, .ref (xa w 13)), (1, .int x1), (2, .int x2)]) hx hb dX4_collectTurns_1 rfl hl (by decide) rfl (fun ls hl => ?_)
  refine lv_iconst (v := 1) hx hb dX4_collectTurns_2 (by decide) ?_
  refine lv_istore (lv' := [(4, .int 1), (3, .int 0), (0, .ref (xa w 13)), (1, .int x1), (2, .int x2)]) hx hb dX4_collectTurns_3 hl (by decide) rfl (fun ls hl => ?_)
  exact kX4_collectTurns_5 X V  4096 x1 x2 0 1 M _ _ _ hm hP hS (lv_sub hl [2, 3, 4, 1, 0] rfl)
def fJ7_rangeCheck_23922 (x0 : Int32) (x1 : Int32) (x2 : Int32) (M0 : xM) : Option (xM) := if x1 ≤ x2 then (if 0 ≤ x1 then (if x2 ≤ x0 then (some M0) else (none)) else (none)) else (none)
theorem fJ7_rangeCheck_23922_s (x0 : Int32) (x1 : Int32) (x2 : Int32) (M0 : xM) : fJ7_rangeCheck_23922 x0 x1 x2 M0 = (if x1 ≤ x2 then (if 0 ≤ x1 then (if x2 ≤ x0 then (some M0) else (none)) else (none)) else (none)) := rfl
set_option maxHeartbeats 4000000 in
set_option maxRecDepth 100000 in
theorem qJ7_rangeCheck_23922 (l : Launch) (w : xT) (x0 : Int32) (x1 : Int32) (x2 : Int32) (M0 : xM) (V : xM) (hm : fJ7_rangeCheck_23922 x0 x1 x2 M0 = some V) : xC l yJ7_rangeCheck_23922 (Cond.code yJ7_rangeCheck_23922 cJ7_rangeCheck_23922 3 none) { frames := 0, cells := 0, slots := 0, locals := 0 } w [.int x0, .int x1, .int x2] M0 none M0 := by
  refine xC.of (by decide) (Nat.le_of_ble_eq_true rfl) ?_
  intro p e s m args below meth c ls X hP hS hl
  have hl : lv_has ls 3 [(0, .int x0), (1, .int x1), (2, .int x2)] := hl
  have X : xX p s m args meth c cJ7_rangeCheck_23922 3 none RJ7 w := X
  have hx := X.1
  have hb := X.2.1
  have hown := X.2.2.2.2.2.1
  have hts := X.2.2.2.2.2.2.1
  rw [fJ7_rangeCheck_23922_s] at hm
  refine lv_iload_n hx hb dJ7_rangeCheck_23922_0 rfl (lv_at hl 1 rfl) ?_
  refine lv_iload_n hx hb dJ7_rangeCheck_23922_1 rfl (lv_at hl 2 rfl) ?_
  refine lv_icmp_le (tgt := 46) hx hb dJ7_rangeCheck_23922_2 (by decide) (fun c1 => ?_) (fun c1 => ?_)
  · have hm := xift c1 hm
    refine lv_iload_n hx hb dJ7_rangeCheck_23922_46 rfl (lv_at hl 1 rfl) ?_
    refine lv_if_ge (tgt := 59) hx hb dJ7_rangeCheck_23922_47 (by decide) (fun c2 => ?_) (fun c2 => ?_)
    · have hm := xift c2 hm
      refine lv_iload_n hx hb dJ7_rangeCheck_23922_59 rfl (lv_at hl 2 rfl) ?_
      refine lv_iload_n hx hb dJ7_rangeCheck_23922_60 rfl (lv_at hl 0 rfl) ?_
      refine lv_icmp_le (tgt := 73) hx hb dJ7_rangeCheck_23922_61 (by decide) (fun c3 => ?_) (fun c3 => ?_)
      · have hm := xift c3 hm
        obtain rfl := Option.some.inj hm
        exact xvret X hP hS dJ7_rangeCheck_23922_73
      · have hm := xiff c3 hm
        exact xnon hm
    · have hm := xiff c2 hm
      exact xnon hm
  · have hm := xiff c1 hm
    exact xnon hm
