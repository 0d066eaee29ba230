def fX9_isPlace (x1 : Int32) (M0 : xM) : Option (Int32) := if x1 < 0 then (some 0) else (if (M0 37 6) ≤ x1 then (some 0) else (some 1))
theorem fX9_isPlace_s (x1 : Int32) (M0 : xM) : fX9_isPlace x1 M0 = (if x1 < 0 then (some 0) else (if (M0 37 6) ≤ x1 then (some 0) else (some 1))) := rfl
set_option maxHeartbeats 4000000 in
set_option maxRecDepth 100000 in
theorem qX9_isPlace (l : Launch) (w : xT) (x1 : Int32) (M0 : xM) (V : Int32) (hm : fX9_isPlace x1 M0 = some V) : xC l yX9_isPlace (Cond.code yX9_isPlace cX9_isPlace 2 (some .boolean)) { frames := 0, cells := 0, slots := 0, locals := 0 } w [.ref (xa w 37), .int x1] M0 (some (.int V)) M0 := by
  refine xC.of (by decide) (Nat.le_of_ble_eq_true rfl) ?_
  intro p e s m args below meth c ls X hP hS hl
  have hl : lv_has ls 2 [(0, .ref (xa w 37)), (1, .int x1)] := hl
  have X : xX p s m args meth c cX9_isPlace 2 (some .boolean) RX9 w := X
  have hx := X.1
  have hb := X.2.1
  have hown := X.2.2.2.2.2.1
  have hts := X.2.2.2.2.2.2.1
  rw [fX9_isPlace_s] at hm
  refine lv_iload_n hx hb dX9_isPlace_0 rfl (lv_at hl 1 rfl) ?_
  refine lv_if_lt (tgt := 16) hx hb dX9_isPlace_1 (by decide) (fun c1 => ?_) (fun c1 => ?_)
  · have hm := xift c1 hm
    refine lv_iconst (v := 0) hx hb dX9_isPlace_16 (by decide) ?_
    obtain rfl := Option.some.inj hm
    exact xzret X hP hS rfl dX9_isPlace_17
  · have hm := xiff c1 hm
    refine lv_iload_n hx hb dX9_isPlace_4 rfl (lv_at hl 1 rfl) ?_
    refine lv_aload_n hx hb dX9_isPlace_5 rfl (lv_at hl 0 rfl) ?_
    refine xgeti xcX9 X hP 37 6 xy37 (by decide) xf_X9_48 rfl dX9_isPlace_6 ?_
    refine lv_icmp_ge (tgt := 16) hx hb dX9_isPlace_9 (by decide) (fun c2 => ?_) (fun c2 => ?_)
    · have hm := xift c2 hm
      refine lv_iconst (v := 0) hx hb dX9_isPlace_16 (by decide) ?_
      obtain rfl := Option.some.inj hm
      exact xzret X hP hS rfl dX9_isPlace_17
    · have hm := xiff c2 hm
      refine lv_iconst (v := 1) hx hb dX9_isPlace_12 (by decide) ?_
      refine lv_goto (tgt := 17) hx hb dX9_isPlace_13 (by decide) ?_
      obtain rfl := Option.some.inj hm
      exact xzret X hP hS rfl dX9_isPlace_17
def fX9_sign (x1 : Int32) (M0 : xM) : Option (Int32) := (fX9_isPlace x1 M0).bind fun v1 => if v1 = 0 then (some (-1)) else (if xin x1 408 then some (M0 40 x1.toNatClampNeg) else none)
theorem fX9_sign_s (x1 : Int32) (M0 : xM) : fX9_sign x1 M0 = ((fX9_isPlace x1 M0).bind fun v1 => if v1 = 0 then (some (-1)) else (if xin x1 408 then some (M0 40 x1.toNatClampNeg) else none)) := rfl
set_option maxHeartbeats 4000000 in
set_option maxRecDepth 100000 in
theorem qX9_sign (l : Launch) (w : xT) (x1 : Int32) (M0 : xM) (V : Int32) (hm : fX9_sign x1 M0 = some V) : xC l yX9_sign (Cond.code yX9_sign cX9_sign 2 (some .int)) { frames := 1, cells := 0, slots := 0, locals := 21 } w [.ref (xa w 37), .int x1] M0 (some (.int V)) M0 := by
  refine xC.of (by decide) (Nat.le_of_ble_eq_true rfl) ?_
  intro p e s m args below meth c ls X hP hS hl
  have hl : lv_has ls 2 [(0, .ref (xa w 37)), (1, .int x1)] := hl
  have X : xX p s m args meth c cX9_sign 2 (some .int) RX9 w := X
  have hx := X.1
  have hb := X.2.1
  have hown := X.2.2.2.2.2.1
  have hts := X.2.2.2.2.2.2.1
  rw [fX9_sign_s] at hm
  refine lv_aload_n hx hb dX9_sign_0 rfl (lv_at hl 0 rfl) ?_
  refine lv_iload_n hx hb dX9_sign_1 rfl (lv_at hl 1 rfl) ?_
  obtain ⟨v1, hg, hm⟩ := xbnd hm
  refine xcallV xm_X9_78 xt_X9_isPlace X hP hS (qX9_isPlace l w x1 M0 v1 hg) xy37 rfl ⟨Nat.le_of_ble_eq_true rfl, Nat.le_of_ble_eq_true rfl⟩ ⟨rfl, rfl⟩ hl.1 rfl (rest := []) rfl (Nat.le_of_ble_eq_true rfl) dX9_sign_2 ⟨Nat.zero_le _, Nat.zero_le _⟩ (fun H locs hP hS => ?_)
  refine W.eq (g2 := F0 m 5 ls [.int v1]) rfl ?_
  refine lv_if_eq (tgt := 17) hx hb dX9_sign_5 (by decide) (fun c2 => ?_) (fun c2 => ?_)
  · have hm := xift c2 hm
    refine lv_iconst (v := (-1)) hx hb dX9_sign_17 (by decide) ?_
    obtain rfl := Option.some.inj hm
    exact xiret X hP hS dX9_sign_18
  · have hm := xiff c2 hm
    refine lv_aload_n hx hb dX9_sign_8 rfl (lv_at hl 0 rfl) ?_
    refine xget xcX9 X hP 37 3 xy37 (by decide) xf_X9_16 rfl dX9_sign_9 ?_
    refine lv_iload_n hx hb dX9_sign_12 rfl (lv_at hl 1 rfl) ?_
    obtain ⟨hi3, hm⟩ := xifn hm
    refine xiald X hP 40 xy40 hi3 dX9_sign_13 ?_
    refine lv_goto (tgt := 18) hx hb dX9_sign_14 (by decide) ?_
    obtain rfl := Option.some.inj hm
    exact xiret X hP hS dX9_sign_18
def fX8_text (x1 : Int32) (x2 : Int32) (M0 : xM) : Option (Int32) := (fX7_has x1 M0).bind fun v1 => if v1 = 0 then (some (-1)) else (if x2 < 0 then (some (-1)) else (if x2 ≤ 1 then (if xin x1 408 then if x2 = 0 then (some (M0 6 x1.toNatClampNeg)) else (if xin (M0 6 x1.toNatClampNeg) 8 then some (x1 - (M0 7 (M0 6 x1.toNatClampNeg).toNatClampNeg)) else none) else none) else (some (-1))))
theorem fX8_text_s (x1 : Int32) (x2 : Int32) (M0 : xM) : fX8_text x1 x2 M0 = ((fX7_has x1 M0).bind fun v1 => if v1 = 0 then (some (-1)) else (if x2 < 0 then (some (-1)) else (if x2 ≤ 1 then (if xin x1 408 then if x2 = 0 then (some (M0 6 x1.toNatClampNeg)) else (if xin (M0 6 x1.toNatClampNeg) 8 then some (x1 - (M0 7 (M0 6 x1.toNatClampNeg).toNatClampNeg)) else none) else none) else (some (-1))))) := rfl
set_option maxHeartbeats 4000000 in
set_option maxRecDepth 100000 in
theorem qX8_text (l : Launch) (w : xT) (x1 : Int32) (x2 : Int32) (M0 : xM) (V : Int32) (hm : fX8_text x1 x2 M0 = some V) : xC l yX8_text (Cond.code yX8_text cX8_text 4 (some .int)) { frames := 1, cells := 0, slots := 0, locals := 21 } w [.ref (xa w 0), .int x1, .int x2] M0 (some (.int V)) M0 := by
  refine xC.of (by decide) (Nat.le_of_ble_eq_true rfl) ?_
  intro p e s m args below meth c ls X hP hS hl
  have hl : lv_has ls 4 [(0, .ref (xa w 0)), (1, .int x1), (2, .int x2)] := hl
  have X : xX p s m args meth c cX8_text 4 (some .int) RX8 w := X
  have hx := X.1
  have hb := X.2.1
  have hown := X.2.2.2.2.2.1
  have hts := X.2.2.2.2.2.2.1
  rw [fX8_text_s] at hm
  refine lv_aload_n hx hb dX8_text_0 rfl (lv_at hl 0 rfl) ?_
  refine xget xcX8 X hP 0 1 xy0 (by decide) xf_X8_19 rfl dX8_text_1 ?_
  refine lv_iload_n hx hb dX8_text_4 rfl (lv_at hl 1 rfl) ?_
  obtain ⟨v1, hg, hm⟩ := xbnd hm
  refine xcallV xm_X8_99 xt_X7_has X hP hS (qX7_has l w x1 M0 v1 hg) xy4 rfl ⟨Nat.le_of_ble_eq_true rfl, Nat.le_of_ble_eq_true rfl⟩ ⟨rfl, rfl⟩ hl.1 rfl (rest := []) rfl (Nat.le_of_ble_eq_true rfl) dX8_text_5 ⟨Nat.zero_le _, Nat.zero_le _⟩ (fun H locs hP hS => ?_)
  refine W.eq (g2 := F0 m 8 ls [.int v1]) rfl ?_
  refine lv_if_eq (tgt := 20) hx hb dX8_text_8 (by decide) (fun c2 => ?_) (fun c2 => ?_)
  · have hm := xift c2 hm
    refine lv_iconst (v := (-1)) hx hb dX8_text_20 (by decide) ?_
    obtain rfl := Option.some.inj hm
    exact xiret X hP hS dX8_text_21
  · have hm := xiff c2 hm
    refine lv_iload_n hx hb dX8_text_11 rfl (lv_at hl 2 rfl) ?_
    refine lv_if_lt (tgt := 20) hx hb dX8_text_12 (by decide) (fun c3 => ?_) (fun c3 => ?_)
    · have hm := xift c3 hm
      refine lv_iconst (v := (-1)) hx hb dX8_text_20 (by decide) ?_
      obtain rfl := Option.some.inj hm
      exact xiret X hP hS dX8_text_21
    · have hm := xiff c3 hm
      refine lv_iload_n hx hb dX8_text_15 rfl (lv_at hl 2 rfl) ?_
      refine lv_iconst (v := 1) hx hb dX8_text_16 (by decide) ?_
      refine lv_icmp_le (tgt := 22) hx hb dX8_text_17 (by decide) (fun c4 => ?_) (fun c4 => ?_)
      · have hm := xift c4 hm
        refine lv_aload_n hx hb dX8_text_22 rfl (lv_at hl 0 rfl) ?_
        refine xget xcX8 X hP 0 1 xy0 (by decide) xf_X8_19 rfl dX8_text_23 ?_
        refine xget xcX7 X hP 4 1 xy4 (by decide) xf_X8_106 rfl dX8_text_26 ?_
        refine lv_iload_n hx hb dX8_text_29 rfl (lv_at hl 1 rfl) ?_
        obtain ⟨hi5, hm⟩ := xifn hm
        refine xiald X hP 6 xy6 hi5 dX8_text_30 ?_
        refine lv_istore_n (lv' := [(3, .int (M0 6 x1.toNatClampNeg)), (0, .ref (xa w 0)), (1, .int x1), (2, .int x2)]) hx hb dX8_text_31 rfl hl (by decide) rfl (fun ls hl => ?_)
        refine lv_iload_n hx hb dX8_text_32 rfl (lv_at hl 3 rfl) ?_
        refine lv_if_ne (tgt := 40) hx hb dX8_text_33 (by decide) (fun c6 => ?_) (fun c6 => ?_)
        · have hm := xiff c6 hm
          refine lv_iload_n hx hb dX8_text_40 rfl (lv_at hl 2 rfl) ?_
          refine lv_aload_n hx hb dX8_text_41 rfl (lv_at hl 1 rfl) ?_
          refine xget xcX8 X hP 0 1 xy0 (by decide) xf_X8_19 rfl dX8_text_42 ?_
          refine xget xcX7 X hP 4 2 xy4 (by decide) xf_X8_109 rfl dX8_text_45 ?_
          refine lv_iload_n hx hb dX8_text_48 rfl (lv_at hl 0 rfl) ?_
          obtain ⟨hi7, hm⟩ := xifn hm
          refine xiald X hP 7 xy7 hi7 dX8_text_49 ?_
          refine lv_isub hx hb dX8_text_50 ?_
          obtain rfl := Option.some.inj hm
          exact xiret X hP hS dX8_text_51
        · have hm := xift c6 hm
          refine lv_iload_n hx hb dX8_text_36 rfl (lv_at hl 0 rfl) ?_
          refine lv_goto (tgt := 51) hx hb dX8_text_37 (by decide) ?_
          obtain rfl := Option.some.inj hm
          exact xiret X hP hS dX8_text_51
      · have hm := xiff c4 hm
        refine lv_iconst (v := (-1)) hx hb dX8_text_20 (by decide) ?_
        obtain rfl := Option.some.inj hm
        exact xiret X hP hS dX8_text_21
def fX9_text (x1 : Int32) (x2 : Int32) (M0 : xM) : Option (Int32) := (fX9_isPlace x1 M0).bind fun v1 => if v1 = 0 then (some (-1)) else (if x2 < 0 then (some (-1)) else (if x2 ≤ 1 then (if x2 = 0 then (if xin x1 408 then some (M0 41 x1.toNatClampNeg) else none) else (if xin x1 408 then if xin (M0 41 x1.toNatClampNeg) 8 then some (x1 - (M0 42 (M0 41 x1.toNatClampNeg).toNatClampNeg)) else none else none)) else (some (-1))))
theorem fX9_text_s (x1 : Int32) (x2 : Int32) (M0 : xM) : fX9_text x1 x2 M0 = ((fX9_isPlace x1 M0).bind fun v1 => if v1 = 0 then (some (-1)) else (if x2 < 0 then (some (-1)) else (if x2 ≤ 1 then (if x2 = 0 then (if xin x1 408 then some (M0 41 x1.toNatClampNeg) else none) else (if xin x1 408 then if xin (M0 41 x1.toNatClampNeg) 8 then some (x1 - (M0 42 (M0 41 x1.toNatClampNeg).toNatClampNeg)) else none else none)) else (some (-1))))) := rfl
set_option maxHeartbeats 4000000 in
set_option maxRecDepth 100000 in
theorem qX9_text (l : Launch) (w : xT) (x1 : Int32) (x2 : Int32) (M0 : xM) (V : Int32) (hm : fX9_text x1 x2 M0 = some V) : xC l yX9_text (Cond.code yX9_text cX9_text 3 (some .int)) { frames := 1, cells := 0, slots := 0, locals := 21 } w [.ref (xa w 37), .int x1, .int x2] M0 (some (.int V)) M0 := by
  refine xC.of (by decide) (Nat.le_of_ble_eq_true rfl) ?_
  intro p e s m args below meth c ls X hP hS hl
  have hl : lv_has ls 3 [(0, .ref (xa w 37)), (1, .int x1), (2, .int x2)] := hl
  have X : xX p s m args meth c cX9_text 3 (some .int) RX9 w := X
  have hx := X.1
  have hb := X.2.1
  have hown := X.2.2.2.2.2.1
  have hts := X.2.2.2.2.2.2.1
  rw [fX9_text_s] at hm
  refine lv_aload_n hx hb dX9_text_0 rfl (lv_at hl 0 rfl) ?_
  refine lv_iload_n hx hb dX9_text_1 rfl (lv_at hl 1 rfl) ?_
  obtain ⟨v1, hg, hm⟩ := xbnd hm
  refine xcallV xm_X9_78 xt_X9_isPlace X hP hS (qX9_isPlace l w x1 M0 v1 hg) xy37 rfl ⟨Nat.le_of_ble_eq_true rfl, Nat.le_of_ble_eq_true rfl⟩ ⟨rfl, rfl⟩ hl.1 rfl (rest := []) rfl (Nat.le_of_ble_eq_true rfl) dX9_text_2 ⟨Nat.zero_le _, Nat.zero_le _⟩ (fun H locs hP hS => ?_)
  refine W.eq (g2 := F0 m 5 ls [.int v1]) rfl ?_
  refine lv_if_eq (tgt := 17) hx hb dX9_text_5 (by decide) (fun c2 => ?_) (fun c2 => ?_)
  · have hm := xift c2 hm
    refine lv_iconst (v := (-1)) hx hb dX9_text_17 (by decide) ?_
    obtain rfl := Option.some.inj hm
    exact xiret X hP hS dX9_text_18
  · have hm := xiff c2 hm
    refine lv_iload_n hx hb dX9_text_8 rfl (lv_at hl 2 rfl) ?_
    refine lv_if_lt (tgt := 17) hx hb dX9_text_9 (by decide) (fun c3 => ?_) (fun c3 => ?_)
    · have hm := xift c3 hm
      refine lv_iconst (v := (-1)) hx hb dX9_text_17 (by decide) ?_
      obtain rfl := Option.some.inj hm
      exact xiret X hP hS dX9_text_18
    · have hm := xiff c3 hm
      refine lv_iload_n hx hb dX9_text_12 rfl (lv_at hl 2 rfl) ?_
      refine lv_iconst (v := 1) hx hb dX9_text_13 (by decide) ?_
      refine lv_icmp_le (tgt := 19) hx hb dX9_text_14 (by decide) (fun c4 => ?_) (fun c4 => ?_)
      · have hm := xift c4 hm
        refine lv_iload_n hx hb dX9_text_19 rfl (lv_at hl 2 rfl) ?_
        refine lv_if_ne (tgt := 32) hx hb dX9_text_20 (by decide) (fun c5 => ?_) (fun c5 => ?_)
        · have hm := xiff c5 hm
          refine lv_iload_n hx hb dX9_text_32 rfl (lv_at hl 1 rfl) ?_
          refine lv_aload_n hx hb dX9_text_33 rfl (lv_at hl 0 rfl) ?_
          refine xget xcX9 X hP 37 5 xy37 (by decide) xf_X9_22 rfl dX9_text_34 ?_
          refine lv_aload_n hx hb dX9_text_37 rfl (lv_at hl 0 rfl) ?_
          refine xget xcX9 X hP 37 4 xy37 (by decide) xf_X9_19 rfl dX9_text_38 ?_
          refine lv_iload_n hx hb dX9_text_41 rfl (lv_at hl 1 rfl) ?_
          obtain ⟨hi6, hm⟩ := xifn hm
          refine xiald X hP 41 xy41 hi6 dX9_text_42 ?_
          obtain ⟨hi7, hm⟩ := xifn hm
          refine xiald X hP 42 xy42 hi7 dX9_text_43 ?_
          refine lv_isub hx hb dX9_text_44 ?_
          obtain rfl := Option.some.inj hm
          exact xiret X hP hS dX9_text_45
        · have hm := xift c5 hm
          refine lv_aload_n hx hb dX9_text_23 rfl (lv_at hl 0 rfl) ?_
          refine xget xcX9 X hP 37 4 xy37 (by decide) xf_X9_19 rfl dX9_text_24 ?_
          refine lv_iload_n hx hb dX9_text_27 rfl (lv_at hl 1 rfl) ?_
          obtain ⟨hi8, hm⟩ := xifn hm
          refine xiald X hP 41 xy41 hi8 dX9_text_28 ?_
          refine lv_goto (tgt := 45) hx hb dX9_text_29 (by decide) ?_
          obtain rfl := Option.some.inj hm
          exact xiret X hP hS dX9_text_45
      · have hm := xiff c4 hm
        refine lv_iconst (v := (-1)) hx hb dX9_text_17 (by decide) ?_
        obtain rfl := Option.some.inj hm
        exact xiret X hP hS dX9_text_18
def fX8_at (x1 : Int32) (M0 : xM) : Option (Int32) := (fX7_has x1 M0).bind fun v1 => if v1 = 0 then (some (-1)) else (if xin x1 408 then some (M0 10 x1.toNatClampNeg) else none)
theorem fX8_at_s (x1 : Int32) (M0 : xM) : fX8_at x1 M0 = ((fX7_has x1 M0).bind fun v1 => if v1 = 0 then (some (-1)) else (if xin x1 408 then some (M0 10 x1.toNatClampNeg) else none)) := rfl
set_option maxHeartbeats 4000000 in
set_option maxRecDepth 100000 in
theorem qX8_at (l : Launch) (w : xT) (x1 : Int32) (M0 : xM) (V : Int32) (hm : fX8_at x1 M0 = some V) : xC l yX8_at (Cond.code yX8_at cX8_at 2 (some .int)) { frames := 1, cells := 0, slots := 0, locals := 21 } w [.ref (xa w 0), .int x1] M0 (some (.int V)) M0 := by
  refine xC.of (by decide) (Nat.le_of_ble_eq_true rfl) ?_
  intro p e s m args below meth c ls X hP hS hl
  have hl : lv_has ls 2 [(0, .ref (xa w 0)), (1, .int x1)] := hl
  have X : xX p s m args meth c cX8_at 2 (some .int) RX8 w := X
  have hx := X.1
  have hb := X.2.1
  have hown := X.2.2.2.2.2.1
  have hts := X.2.2.2.2.2.2.1
  rw [fX8_at_s] at hm
  refine lv_aload_n hx hb dX8_at_0 rfl (lv_at hl 0 rfl) ?_
  refine xget xcX8 X hP 0 1 xy0 (by decide) xf_X8_19 rfl dX8_at_1 ?_
  refine lv_iload_n hx hb dX8_at_4 rfl (lv_at hl 1 rfl) ?_
  obtain ⟨v1, hg, hm⟩ := xbnd hm
  refine xcallV xm_X8_99 xt_X7_has X hP hS (qX7_has l w x1 M0 v1 hg) xy4 rfl ⟨Nat.le_of_ble_eq_true rfl, Nat.le_of_ble_eq_true rfl⟩ ⟨rfl, rfl⟩ hl.1 rfl (rest := []) rfl (Nat.le_of_ble_eq_true rfl) dX8_at_5 ⟨Nat.zero_le _, Nat.zero_le _⟩ (fun H locs hP hS => ?_)
  refine W.eq (g2 := F0 m 8 ls [.int v1]) rfl ?_
  refine lv_if_eq (tgt := 23) hx hb dX8_at_8 (by decide) (fun c2 => ?_) (fun c2 => ?_)
  · have hm := xift c2 hm
    refine lv_iconst (v := (-1)) hx hb dX8_at_23 (by decide) ?_
    obtain rfl := Option.some.inj hm
    exact xiret X hP hS dX8_at_24
  · have hm := xiff c2 hm
    refine lv_aload_n hx hb dX8_at_11 rfl (lv_at hl 0 rfl) ?_
    refine xget xcX8 X hP 0 2 xy0 (by decide) xf_X8_28 rfl dX8_at_12 ?_
    refine xget xcX3 X hP 9 0 xy9 (by decide) xf_X8_112 rfl dX8_at_15 ?_
    refine lv_iload_n hx hb dX8_at_18 rfl (lv_at hl 1 rfl) ?_
    obtain ⟨hi3, hm⟩ := xifn hm
    refine xiald X hP 10 xy10 hi3 dX8_at_19 ?_
    refine lv_goto (tgt := 24) hx hb dX8_at_20 (by decide) ?_
    obtain rfl := Option.some.inj hm
    exact xiret X hP hS dX8_at_24
def fX9_at (x1 : Int32) (M0 : xM) : Option (Int32) := (fX9_isPlace x1 M0).bind fun v1 => if v1 = 0 then (some (-1)) else (if xin x1 408 then some (M0 44 x1.toNatClampNeg) else none)
theorem fX9_at_s (x1 : Int32) (M0 : xM) : fX9_at x1 M0 = ((fX9_isPlace x1 M0).bind fun v1 => if v1 = 0 then (some (-1)) else (if xin x1 408 then some (M0 44 x1.toNatClampNeg) else none)) := rfl
set_option maxHeartbeats 4000000 in
set_option maxRecDepth 100000 in
theorem qX9_at (l : Launch) (w : xT) (x1 : Int32) (M0 : xM) (V : Int32) (hm : fX9_at x1 M0 = some V) : xC l yX9_at (Cond.code yX9_at cX9_at 2 (some .int)) { frames := 1, cells := 0, slots := 0, locals := 21 } w [.ref (xa w 37), .int x1] M0 (some (.int V)) M0 := by
  refine xC.of (by decide) (Nat.le_of_ble_eq_true rfl) ?_
  intro p e s m args below meth c ls X hP hS hl
  have hl : lv_has ls 2 [(0, .ref (xa w 37)), (1, .int x1)] := hl
  have X : xX p s m args meth c cX9_at 2 (some .int) RX9 w := X
  have hx := X.1
  have hb := X.2.1
  have hown := X.2.2.2.2.2.1
  have hts := X.2.2.2.2.2.2.1
  rw [fX9_at_s] at hm
  refine lv_aload_n hx hb dX9_at_0 rfl (lv_at hl 0 rfl) ?_
  refine lv_iload_n hx hb dX9_at_1 rfl (lv_at hl 1 rfl) ?_
  obtain ⟨v1, hg, hm⟩ := xbnd hm
  refine xcallV xm_X9_78 xt_X9_isPlace X hP hS (qX9_isPlace l w x1 M0 v1 hg) xy37 rfl ⟨Nat.le_of_ble_eq_true rfl, Nat.le_of_ble_eq_true rfl⟩ ⟨rfl, rfl⟩ hl.1 rfl (rest := []) rfl (Nat.le_of_ble_eq_true rfl) dX9_at_2 ⟨Nat.zero_le _, Nat.zero_le _⟩ (fun H locs hP hS => ?_)
  refine W.eq (g2 := F0 m 5 ls [.int v1]) rfl ?_
  refine lv_if_eq (tgt := 17) hx hb dX9_at_5 (by decide) (fun c2 => ?_) (fun c2 => ?_)
  · have hm := xift c2 hm
    refine lv_iconst (v := (-1)) hx hb dX9_at_17 (by decide) ?_
    obtain rfl := Option.some.inj hm
    exact xiret X hP hS dX9_at_18
  · have hm := xiff c2 hm
    refine lv_aload_n hx hb dX9_at_8 rfl (lv_at hl 0 rfl) ?_
    refine xget xcX9 X hP 37 8 xy37 (by decide) xf_X9_29 rfl dX9_at_9 ?_
    refine lv_iload_n hx hb dX9_at_12 rfl (lv_at hl 1 rfl) ?_
    obtain ⟨hi3, hm⟩ := xifn hm
    refine xiald X hP 44 xy44 hi3 dX9_at_13 ?_
    refine lv_goto (tgt := 18) hx hb dX9_at_14 (by decide) ?_
    obtain rfl := Option.some.inj hm
    exact xiret X hP hS dX9_at_18
def fX8_rank (x1 : Int32) (M0 : xM) : Option (Int32) := (fX7_has x1 M0).bind fun v1 => if v1 = 0 then (some (-1)) else (if xin x1 408 then some (M0 11 x1.toNatClampNeg) else none)
theorem fX8_rank_s (x1 : Int32) (M0 : xM) : fX8_rank x1 M0 = ((fX7_has x1 M0).bind fun v1 => if v1 = 0 then (some (-1)) else (if xin x1 408 then some (M0 11 x1.toNatClampNeg) else none)) := rfl
set_option maxHeartbeats 4000000 in
set_option maxRecDepth 100000 in
theorem qX8_rank (l : Launch) (w : xT) (x1 : Int32) (M0 : xM) (V : Int32) (hm : fX8_rank x1 M0 = some V) : xC l yX8_rank (Cond.code yX8_rank cX8_rank 2 (some .int)) { frames := 1, cells := 0, slots := 0, locals := 21 } w [.ref (xa w 0), .int x1] M0 (some (.int V)) M0 := by
  refine xC.of (by decide) (Nat.le_of_ble_eq_true rfl) ?_
  intro p e s m args below meth c ls X hP hS hl
  have hl : lv_has ls 2 [(0, .ref (xa w 0)), (1, .int x1)] := hl
  have X : xX p s m args meth c cX8_rank 2 (some .int) RX8 w := X
  have hx := X.1
  have hb := X.2.1
  have hown := X.2.2.2.2.2.1
  have hts := X.2.2.2.2.2.2.1
  rw [fX8_rank_s] at hm
  refine lv_aload_n hx hb dX8_rank_0 rfl (lv_at hl 0 rfl) ?_
  refine xget xcX8 X hP 0 1 xy0 (by decide) xf_X8_19 rfl dX8_rank_1 ?_
  refine lv_iload_n hx hb dX8_rank_4 rfl (lv_at hl 1 rfl) ?_
  obtain ⟨v1, hg, hm⟩ := xbnd hm
  refine xcallV xm_X8_99 xt_X7_has X hP hS (qX7_has l w x1 M0 v1 hg) xy4 rfl ⟨Nat.le_of_ble_eq_true rfl, Nat.le_of_ble_eq_true rfl⟩ ⟨rfl, rfl⟩ hl.1 rfl (rest := []) rfl (Nat.le_of_ble_eq_true rfl) dX8_rank_5 ⟨Nat.zero_le _, Nat.zero_le _⟩ (fun H locs hP hS => ?_)
  refine W.eq (g2 := F0 m 8 ls [.int v1]) rfl ?_
  refine lv_if_eq (tgt := 23) hx hb dX8_rank_8 (by decide) (fun c2 => ?_) (fun c2 => ?_)
  · have hm := xift c2 hm
    refine lv_iconst (v := (-1)) hx hb dX8_rank_23 (by decide) ?_
    obtain rfl := Option.some.inj hm
    exact xiret X hP hS dX8_rank_24
  · have hm := xiff c2 hm
    refine lv_aload_n hx hb dX8_rank_11 rfl (lv_at hl 0 rfl) ?_
    refine xget xcX8 X hP 0 2 xy0 (by decide) xf_X8_28 rfl dX8_rank_12 ?_
    refine xget xcX3 X hP 9 1 xy9 (by decide) xf_X8_115 rfl dX8_rank_15 ?_
    refine lv_iload_n hx hb dX8_rank_18 rfl (lv_at hl 1 rfl) ?_
    obtain ⟨hi3, hm⟩ := xifn hm
    refine xiald X hP 11 xy11 hi3 dX8_rank_19 ?_
    refine lv_goto (tgt := 24) hx hb dX8_rank_20 (by decide) ?_
    obtain rfl := Option.some.inj hm
    exact xiret X hP hS dX8_rank_24
def fX9_rank (x1 : Int32) (M0 : xM) : Option (Int32) := (fX9_isPlace x1 M0).bind fun v1 => if v1 = 0 then (some (-1)) else (if xin x1 408 then some (M0 45 x1.toNatClampNeg) else none)
theorem fX9_rank_s (x1 : Int32) (M0 : xM) : fX9_rank x1 M0 = ((fX9_isPlace x1 M0).bind fun v1 => if v1 = 0 then (some (-1)) else (if xin x1 408 then some (M0 45 x1.toNatClampNeg) else none)) := rfl
set_option maxHeartbeats 4000000 in
set_option maxRecDepth 100000 in
theorem qX9_rank (l : Launch) (w : xT) (x1 : Int32) (M0 : xM) (V : Int32) (hm : fX9_rank x1 M0 = some V) : xC l yX9_rank (Cond.code yX9_rank cX9_rank 2 (some .int)) { frames := 1, cells := 0, slots := 0, locals := 21 } w [.ref (xa w 37), .int x1] M0 (some (.int V)) M0 := by
  refine xC.of (by decide) (Nat.le_of_ble_eq_true rfl) ?_
  intro p e s m args below meth c ls X hP hS hl
  have hl : lv_has ls 2 [(0, .ref (xa w 37)), (1, .int x1)] := hl
  have X : xX p s m args meth c cX9_rank 2 (some .int) RX9 w := X
  have hx := X.1
  have hb := X.2.1
  have hown := X.2.2.2.2.2.1
  have hts := X.2.2.2.2.2.2.1
  rw [fX9_rank_s] at hm
  refine lv_aload_n hx hb dX9_rank_0 rfl (lv_at hl 0 rfl) ?_
  refine lv_iload_n hx hb dX9_rank_1 rfl (lv_at hl 1 rfl) ?_
  obtain ⟨v1, hg, hm⟩ := xbnd hm
  refine xcallV xm_X9_78 xt_X9_isPlace X hP hS (qX9_isPlace l w x1 M0 v1 hg) xy37 rfl ⟨Nat.le_of_ble_eq_true rfl, Nat.le_of_ble_eq_true rfl⟩ ⟨rfl, rfl⟩ hl.1 rfl (rest := []) rfl (Nat.le_of_ble_eq_true rfl) dX9_rank_2 ⟨Nat.zero_le _, Nat.zero_le _⟩ (fun H locs hP hS => ?_)
  refine W.eq (g2 := F0 m 5 ls [.int v1]) rfl ?_
  refine lv_if_eq (tgt := 17) hx hb dX9_rank_5 (by decide) (fun c2 => ?_) (fun c2 => ?_)
  · have hm := xift c2 hm
    refine lv_iconst (v := (-1)) hx hb dX9_rank_17 (by decide) ?_
    obtain rfl := Option.some.inj hm
    exact xiret X hP hS dX9_rank_18
  · have hm := xiff c2 hm
    refine lv_aload_n hx hb dX9_rank_8 rfl (lv_at hl 0 rfl) ?_
    refine xget xcX9 X hP 37 9 xy37 (by decide) xf_X9_32 rfl dX9_rank_9 ?_
    refine lv_iload_n hx hb dX9_rank_12 rfl (lv_at hl 1 rfl) ?_
    obtain ⟨hi3, hm⟩ := xifn hm
    refine xiald X hP 45 xy45 hi3 dX9_rank_13 ?_
    refine lv_goto (tgt := 18) hx hb dX9_rank_14 (by decide) ?_
    obtain rfl := Option.some.inj hm
    exact xiret X hP hS dX9_rank_18
def fX8_beside (x1 : Int32) (M0 : xM) : Option (Int32) := (fX7_has x1 M0).bind fun v1 => if v1 = 0 then (some (-1)) else (if xin x1 408 then some (M0 12 x1.toNatClampNeg) else none)
theorem fX8_beside_s (x1 : Int32) (M0 : xM) : fX8_beside x1 M0 = ((fX7_has x1 M0).bind fun v1 => if v1 = 0 then (some (-1)) else (if xin x1 408 then some (M0 12 x1.toNatClampNeg) else none)) := rfl
set_option maxHeartbeats 4000000 in
set_option maxRecDepth 100000 in
theorem qX8_beside (l : Launch) (w : xT) (x1 : Int32) (M0 : xM) (V : Int32) (hm : fX8_beside x1 M0 = some V) : xC l yX8_beside (Cond.code yX8_beside cX8_beside 2 (some .int)) { frames := 1, cells := 0, slots := 0, locals := 21 } w [.ref (xa w 0), .int x1] M0 (some (.int V)) M0 := by
  refine xC.of (by decide) (Nat.le_of_ble_eq_true rfl) ?_
  intro p e s m args below meth c ls X hP hS hl
  have hl : lv_has ls 2 [(0, .ref (xa w 0)), (1, .int x1)] := hl
  have X : xX p s m args meth c cX8_beside 2 (some .int) RX8 w := X
  have hx := X.1
  have hb := X.2.1
  have hown := X.2.2.2.2.2.1
  have hts := X.2.2.2.2.2.2.1
  rw [fX8_beside_s] at hm
  refine lv_aload_n hx hb dX8_beside_0 rfl (lv_at hl 0 rfl) ?_
  refine xget xcX8 X hP 0 1 xy0 (by decide) xf_X8_19 rfl dX8_beside_1 ?_
  refine lv_iload_n hx hb dX8_beside_4 rfl (lv_at hl 1 rfl) ?_
  obtain ⟨v1, hg, hm⟩ := xbnd hm
  refine xcallV xm_X8_99 xt_X7_has X hP hS (qX7_has l w x1 M0 v1 hg) xy4 rfl ⟨Nat.le_of_ble_eq_true rfl, Nat.le_of_ble_eq_true rfl⟩ ⟨rfl, rfl⟩ hl.1 rfl (rest := []) rfl (Nat.le_of_ble_eq_true rfl) dX8_beside_5 ⟨Nat.zero_le _, Nat.zero_le _⟩ (fun H locs hP hS => ?_)
  refine W.eq (g2 := F0 m 8 ls [.int v1]) rfl ?_
  refine lv_if_eq (tgt := 23) hx hb dX8_beside_8 (by decide) (fun c2 => ?_) (fun c2 => ?_)
  · have hm := xift c2 hm
    refine lv_iconst (v := (-1)) hx hb dX8_beside_23 (by decide) ?_
    obtain rfl := Option.some.inj hm
    exact xiret X hP hS dX8_beside_24
  · have hm := xiff c2 hm
    refine lv_aload_n hx hb dX8_beside_11 rfl (lv_at hl 0 rfl) ?_
    refine xget xcX8 X hP 0 2 xy0 (by decide) xf_X8_28 rfl dX8_beside_12 ?_
    refine xget xcX3 X hP 9 2 xy9 (by decide) xf_X8_118 rfl dX8_beside_15 ?_
    refine lv_iload_n hx hb dX8_beside_18 rfl (lv_at hl 1 rfl) ?_
    obtain ⟨hi3, hm⟩ := xifn hm
    refine xiald X hP 12 xy12 hi3 dX8_beside_19 ?_
    refine lv_goto (tgt := 24) hx hb dX8_beside_20 (by decide) ?_
    obtain rfl := Option.some.inj hm
    exact xiret X hP hS dX8_beside_24
def fX9_beside0 (x1 : Int32) (M0 : xM) : Option (Int32) := if x1 = 0 then (some 0) else (if xin x1 408 then if xin (x1 - 1) 408 then (fX9_common0 (M0 44 x1.toNatClampNeg) (M0 44 (x1 - 1).toNatClampNeg) M0).bind fun v4 => some v4 else none else none)
theorem fX9_beside0_s (x1 : Int32) (M0 : xM) : fX9_beside0 x1 M0 = (if x1 = 0 then (some 0) else (if xin x1 408 then if xin (x1 - 1) 408 then (fX9_common0 (M0 44 x1.toNatClampNeg) (M0 44 (x1 - 1).toNatClampNeg) M0).bind fun v4 => some v4 else none else none)) := rfl
set_option maxHeartbeats 4000000 in
set_option maxRecDepth 100000 in
theorem qX9_beside0 (l : Launch) (w : xT) (x1 : Int32) (M0 : xM) (V : Int32) (hm : fX9_beside0 x1 M0 = some V) : xC l yX9_beside0 (Cond.code yX9_beside0 cX9_beside0 2 (some .int)) { frames := 1, cells := 0, slots := 0, locals := 22 } w [.ref (xa w 37), .int x1] M0 (some (.int V)) M0 := by
  refine xC.of (by decide) (Nat.le_of_ble_eq_true rfl) ?_
  intro p e s m args below meth c ls X hP hS hl
  have hl : lv_has ls 2 [(0, .ref (xa w 37)), (1, .int x1)] := hl
  have X : xX p s m args meth c cX9_beside0 2 (some .int) RX9 w := X
  have hx := X.1
  have hb := X.2.1
  have hown := X.2.2.2.2.2.1
  have hts := X.2.2.2.2.2.2.1
  rw [fX9_beside0_s] at hm
  refine lv_iload_n hx hb dX9_beside0_0 rfl (lv_at hl 1 rfl) ?_
  refine lv_if_ne (tgt := 8) hx hb dX9_beside0_1 (by decide) (fun c1 => ?_) (fun c1 => ?_)
  · have hm := xiff c1 hm
    refine lv_aload_n hx hb dX9_beside0_8 rfl (lv_at hl 0 rfl) ?_
    refine lv_aload_n hx hb dX9_beside0_9 rfl (lv_at hl 0 rfl) ?_
    refine xget xcX9 X hP 37 8 xy37 (by decide) xf_X9_29 rfl dX9_beside0_10 ?_
    refine lv_iload_n hx hb dX9_beside0_13 rfl (lv_at hl 1 rfl) ?_
    obtain ⟨hi2, hm⟩ := xifn hm
    refine xiald X hP 44 xy44 hi2 dX9_beside0_14 ?_
    refine lv_aload_n hx hb dX9_beside0_15 rfl (lv_at hl 0 rfl) ?_
    refine xget xcX9 X hP 37 8 xy37 (by decide) xf_X9_29 rfl dX9_beside0_16 ?_
    refine lv_iload_n hx hb dX9_beside0_19 rfl (lv_at hl 1 rfl) ?_
    refine lv_iconst (v := 1) hx hb dX9_beside0_20 (by decide) ?_
    refine lv_isub hx hb dX9_beside0_21 ?_
    obtain ⟨hi3, hm⟩ := xifn hm
    refine xiald X hP 44 xy44 hi3 dX9_beside0_22 ?_
    obtain ⟨v4, hg, hm⟩ := xbnd hm
    refine xcallV xm_X9_70 xt_X9_common0 X hP hS (qX9_common0 l w (M0 44 x1.toNatClampNeg) (M0 44 (x1 - 1).toNatClampNeg) M0 v4 hg) xy37 rfl ⟨Nat.le_of_ble_eq_true rfl, Nat.le_of_ble_eq_true rfl⟩ ⟨rfl, rfl⟩ hl.1 rfl (rest := []) rfl (Nat.le_of_ble_eq_true rfl) dX9_beside0_23 ⟨Nat.zero_le _, Nat.zero_le _⟩ (fun H locs hP hS => ?_)
    refine W.eq (g2 := F0 m 26 ls [.int v4]) rfl ?_
    obtain rfl := Option.some.inj hm
    exact xiret X hP hS dX9_beside0_26
  · have hm := xift c1 hm
    refine lv_iconst (v := 0) hx hb dX9_beside0_4 (by decide) ?_
    refine lv_goto (tgt := 26) hx hb dX9_beside0_5 (by decide) ?_
    obtain rfl := Option.some.inj hm
    exact xiret X hP hS dX9_beside0_26
def fX9_beside (x1 : Int32) (M0 : xM) : Option (Int32) := (fX9_isPlace x1 M0).bind fun v1 => if v1 = 0 then (some (-1)) else ((fX9_beside0 x1 M0).bind fun v3 => some v3)
theorem fX9_beside_s (x1 : Int32) (M0 : xM) : fX9_beside x1 M0 = ((fX9_isPlace x1 M0).bind fun v1 => if v1 = 0 then (some (-1)) else ((fX9_beside0 x1 M0).bind fun v3 => some v3)) := rfl
set_option maxHeartbeats 4000000 in
set_option maxRecDepth 100000 in
theorem qX9_beside (l : Launch) (w : xT) (x1 : Int32) (M0 : xM) (V : Int32) (hm : fX9_beside x1 M0 = some V) : xC l yX9_beside (Cond.code yX9_beside cX9_beside 2 (some .int)) { frames := 2, cells := 0, slots := 0, locals := 43 } w [.ref (xa w 37), .int x1] M0 (some (.int V)) M0 := by
  refine xC.of (by decide) (Nat.le_of_ble_eq_true rfl) ?_
  intro p e s m args below meth c ls X hP hS hl
  have hl : lv_has ls 2 [(0, .ref (xa w 37)), (1, .int x1)] := hl
  have X : xX p s m args meth c cX9_beside 2 (some .int) RX9 w := X
  have hx := X.1
  have hb := X.2.1
  have hown := X.2.2.2.2.2.1
  have hts := X.2.2.2.2.2.2.1
  rw [fX9_beside_s] at hm
  refine lv_aload_n hx hb dX9_beside_0 rfl (lv_at hl 0 rfl) ?_
  refine lv_iload_n hx hb dX9_beside_1 rfl (lv_at hl 1 rfl) ?_
  obtain ⟨v1, hg, hm⟩ := xbnd hm
  refine xcallV xm_X9_78 xt_X9_isPlace X hP hS (qX9_isPlace l w x1 M0 v1 hg) xy37 rfl ⟨Nat.le_of_ble_eq_true rfl, Nat.le_of_ble_eq_true rfl⟩ ⟨rfl, rfl⟩ hl.1 rfl (rest := []) rfl (Nat.le_of_ble_eq_true rfl) dX9_beside_2 ⟨Nat.zero_le _, Nat.zero_le _⟩ (fun H locs hP hS => ?_)
  refine W.eq (g2 := F0 m 5 ls [.int v1]) rfl ?_
  refine lv_if_eq (tgt := 16) hx hb dX9_beside_5 (by decide) (fun c2 => ?_) (fun c2 => ?_)
  · have hm := xift c2 hm
    refine lv_iconst (v := (-1)) hx hb dX9_beside_16 (by decide) ?_
    obtain rfl := Option.some.inj hm
    exact xiret X hP hS dX9_beside_17
  · have hm := xiff c2 hm
    refine lv_aload_n hx hb dX9_beside_8 rfl (lv_at hl 0 rfl) ?_
    refine lv_iload_n hx hb dX9_beside_9 rfl (lv_at hl 1 rfl) ?_
    obtain ⟨v3, hg, hm⟩ := xbnd hm
    refine xcallV xm_X9_81 xt_X9_beside0 X hP hS (qX9_beside0 l w x1 M0 v3 hg) xy37 rfl ⟨Nat.le_of_ble_eq_true rfl, Nat.le_of_ble_eq_true rfl⟩ ⟨rfl, rfl⟩ hl.1 rfl (rest := []) rfl (Nat.le_of_ble_eq_true rfl) dX9_beside_10 ⟨Nat.zero_le _, Nat.zero_le _⟩ (fun H locs hP hS => ?_)
    refine W.eq (g2 := F0 m 13 ls [.int v3]) rfl ?_
    refine lv_goto (tgt := 17) hx hb dX9_beside_13 (by decide) ?_
    obtain rfl := Option.some.inj hm
    exact xiret X hP hS dX9_beside_17
def fX7_signsFrom (x1 : Int32) (M0 : xM) : Option (Int32) := if xin x1 408 then if xin (M0 6 x1.toNatClampNeg) 8 then some ((M0 8 (M0 6 x1.toNatClampNeg).toNatClampNeg) - x1) else none else none
theorem fX7_signsFrom_s (x1 : Int32) (M0 : xM) : fX7_signsFrom x1 M0 = (if xin x1 408 then if xin (M0 6 x1.toNatClampNeg) 8 then some ((M0 8 (M0 6 x1.toNatClampNeg).toNatClampNeg) - x1) else none else none) := rfl
set_option maxHeartbeats 4000000 in
set_option maxRecDepth 100000 in
theorem qX7_signsFrom (l : Launch) (w : xT) (x1 : Int32) (M0 : xM) (V : Int32) (hm : fX7_signsFrom x1 M0 = some V) : xC l yX7_signsFrom (Cond.code yX7_signsFrom cX7_signsFrom 2 (some .int)) { frames := 0, cells := 0, slots := 0, locals := 0 } w [.ref (xa w 4), .int x1] M0 (some (.int V)) M0 := by
  refine xC.of (by decide) (Nat.le_of_ble_eq_true rfl) ?_
  intro p e s m args below meth c ls X hP hS hl
  have hl : lv_has ls 2 [(0, .ref (xa w 4)), (1, .int x1)] := hl
  have X : xX p s m args meth c cX7_signsFrom 2 (some .int) RX7 w := X
  have hx := X.1
  have hb := X.2.1
  have hown := X.2.2.2.2.2.1
  have hts := X.2.2.2.2.2.2.1
  rw [fX7_signsFrom_s] at hm
  refine lv_aload_n hx hb dX7_signsFrom_0 rfl (lv_at hl 0 rfl) ?_
  refine xget xcX7 X hP 4 3 xy4 (by decide) xf_X7_21 rfl dX7_signsFrom_1 ?_
  refine lv_aload_n hx hb dX7_signsFrom_4 rfl (lv_at hl 0 rfl) ?_
  refine xget xcX7 X hP 4 1 xy4 (by decide) xf_X7_15 rfl dX7_signsFrom_5 ?_
  refine lv_iload_n hx hb dX7_signsFrom_8 rfl (lv_at hl 1 rfl) ?_
  obtain ⟨hi1, hm⟩ := xifn hm
  refine xiald X hP 6 xy6 hi1 dX7_signsFrom_9 ?_
  obtain ⟨hi2, hm⟩ := xifn hm
  refine xiald X hP 8 xy8 hi2 dX7_signsFrom_10 ?_
  refine lv_iload_n hx hb dX7_signsFrom_11 rfl (lv_at hl 1 rfl) ?_
  refine lv_isub hx hb dX7_signsFrom_12 ?_
  obtain rfl := Option.some.inj hm
  exact xiret X hP hS dX7_signsFrom_13
def fX8_common (x1 : Int32) (x2 : Int32) (M0 : xM) : Option (Int32) := (fX7_has x1 M0).bind fun v1 => if v1 = 0 then (some (-1)) else ((fX7_has x2 M0).bind fun v3 => if v3 = 0 then (some (-1)) else (if x1 = x2 then ((fX7_signsFrom x1 M0).bind fun v7 => some v7) else ((fX7_alikeFrom x1 x2 0 M0).bind fun v6 => some v6)))
theorem fX8_common_s (x1 : Int32) (x2 : Int32) (M0 : xM) : fX8_common x1 x2 M0 = ((fX7_has x1 M0).bind fun v1 => if v1 = 0 then (some (-1)) else ((fX7_has x2 M0).bind fun v3 => if v3 = 0 then (some (-1)) else (if x1 = x2 then ((fX7_signsFrom x1 M0).bind fun v7 => some v7) else ((fX7_alikeFrom x1 x2 0 M0).bind fun v6 => some v6)))) := rfl
set_option maxHeartbeats 4000000 in
set_option maxRecDepth 100000 in
theorem qX8_common (l : Launch) (w : xT) (x1 : Int32) (x2 : Int32) (M0 : xM) (V : Int32) (hm : fX8_common x1 x2 M0 = some V) : xC l yX8_common (Cond.code yX8_common cX8_common 3 (some .int)) { frames := 1, cells := 0, slots := 0, locals := 24 } w [.ref (xa w 0), .int x1, .int x2] M0 (some (.int V)) M0 := by
  refine xC.of (by decide) (Nat.le_of_ble_eq_true rfl) ?_
  intro p e s m args below meth c ls X hP hS hl
  have hl : lv_has ls 3 [(0, .ref (xa w 0)), (1, .int x1), (2, .int x2)] := hl
  have X : xX p s m args meth c cX8_common 3 (some .int) RX8 w := X
  have hx := X.1
  have hb := X.2.1
  have hown := X.2.2.2.2.2.1
  have hts := X.2.2.2.2.2.2.1
  rw [fX8_common_s] at hm
  refine lv_aload_n hx hb dX8_common_0 rfl (lv_at hl 0 rfl) ?_
  refine xget xcX8 X hP 0 1 xy0 (by decide) xf_X8_19 rfl dX8_common_1 ?_
  refine lv_iload_n hx hb dX8_common_4 rfl (lv_at hl 1 rfl) ?_
  obtain ⟨v1, hg, hm⟩ := xbnd hm
  refine xcallV xm_X8_99 xt_X7_has X hP hS (qX7_has l w x1 M0 v1 hg) xy4 rfl ⟨Nat.le_of_ble_eq_true rfl, Nat.le_of_ble_eq_true rfl⟩ ⟨rfl, rfl⟩ hl.1 rfl (rest := []) rfl (Nat.le_of_ble_eq_true rfl) dX8_common_5 ⟨Nat.zero_le _, Nat.zero_le _⟩ (fun H locs hP hS => ?_)
  refine W.eq (g2 := F0 m 8 ls [.int v1]) rfl ?_
  refine lv_if_eq (tgt := 22) hx hb dX8_common_8 (by decide) (fun c2 => ?_) (fun c2 => ?_)
  · have hm := xift c2 hm
    refine lv_iconst (v := (-1)) hx hb dX8_common_22 (by decide) ?_
    obtain rfl := Option.some.inj hm
    exact xiret X hP hS dX8_common_23
  · have hm := xiff c2 hm
    refine lv_aload_n hx hb dX8_common_11 rfl (lv_at hl 0 rfl) ?_
    refine xget xcX8 X hP 0 1 xy0 (by decide) xf_X8_19 rfl dX8_common_12 ?_
    refine lv_iload_n hx hb dX8_common_15 rfl (lv_at hl 2 rfl) ?_
    obtain ⟨v3, hg, hm⟩ := xbnd hm
    refine xcallV xm_X8_99 xt_X7_has X hP hS (qX7_has l w x2 M0 v3 hg) xy4 rfl ⟨Nat.le_of_ble_eq_true rfl, Nat.le_of_ble_eq_true rfl⟩ ⟨rfl, rfl⟩ hl.1 rfl (rest := []) rfl (Nat.le_of_ble_eq_true rfl) dX8_common_16 ⟨Nat.zero_le _, Nat.zero_le _⟩ (fun H locs hP hS => ?_)
    refine W.eq (g2 := F0 m 19 ls [.int v3]) rfl ?_
    refine lv_if_ne (tgt := 24) hx hb dX8_common_19 (by decide) (fun c4 => ?_) (fun c4 => ?_)
    · have hm := xiff c4 hm
      refine lv_iload_n hx hb dX8_common_24 rfl (lv_at hl 1 rfl) ?_
      refine lv_iload_n hx hb dX8_common_25 rfl (lv_at hl 2 rfl) ?_
      refine lv_icmp_ne (tgt := 40) hx hb dX8_common_26 (by decide) (fun c5 => ?_) (fun c5 => ?_)
      · have hm := xiff c5 hm
        refine lv_aload_n hx hb dX8_common_40 rfl (lv_at hl 0 rfl) ?_
        refine xget xcX8 X hP 0 1 xy0 (by decide) xf_X8_19 rfl dX8_common_41 ?_
        refine lv_iload_n hx hb dX8_common_44 rfl (lv_at hl 1 rfl) ?_
        refine lv_iload_n hx hb dX8_common_45 rfl (lv_at hl 2 rfl) ?_
        refine lv_iconst (v := 0) hx hb dX8_common_46 (by decide) ?_
        obtain ⟨v6, hg, hm⟩ := xbnd hm
        refine xcallV xm_X8_124 xt_X7_alikeFrom X hP hS (qX7_alikeFrom l w x1 x2 0 M0 v6 hg) xy4 rfl ⟨Nat.le_of_ble_eq_true rfl, Nat.le_of_ble_eq_true rfl⟩ ⟨rfl, rfl⟩ hl.1 rfl (rest := []) rfl (Nat.le_of_ble_eq_true rfl) dX8_common_47 ⟨Nat.zero_le _, Nat.zero_le _⟩ (fun H locs hP hS => ?_)
        refine W.eq (g2 := F0 m 50 ls [.int v6]) rfl ?_
        obtain rfl := Option.some.inj hm
        exact xiret X hP hS dX8_common_50
      · have hm := xift c5 hm
        refine lv_aload_n hx hb dX8_common_29 rfl (lv_at hl 0 rfl) ?_
        refine xget xcX8 X hP 0 1 xy0 (by decide) xf_X8_19 rfl dX8_common_30 ?_
        refine lv_iload_n hx hb dX8_common_33 rfl (lv_at hl 1 rfl) ?_
        obtain ⟨v7, hg, hm⟩ := xbnd hm
        refine xcallV xm_X8_121 xt_X7_signsFrom X hP hS (qX7_signsFrom l w x1 M0 v7 hg) xy4 rfl ⟨Nat.le_of_ble_eq_true rfl, Nat.le_of_ble_eq_true rfl⟩ ⟨rfl, rfl⟩ hl.1 rfl (rest := []) rfl (Nat.le_of_ble_eq_true rfl) dX8_common_34 ⟨Nat.zero_le _, Nat.zero_le _⟩ (fun H locs hP hS => ?_)
        refine W.eq (g2 := F0 m 37 ls [.int v7]) rfl ?_
        refine lv_goto (tgt := 50) hx hb dX8_common_37 (by decide) ?_
        obtain rfl := Option.some.inj hm
        exact xiret X hP hS dX8_common_50
    · have hm := xift c4 hm
      refine lv_iconst (v := (-1)) hx hb dX8_common_22 (by decide) ?_
      obtain rfl := Option.some.inj hm
      exact xiret X hP hS dX8_common_23
def fX9_common (x1 : Int32) (x2 : Int32) (M0 : xM) : Option (Int32) := (fX9_isPlace x1 M0).bind fun v1 => if v1 = 0 then (some (-1)) else ((fX9_isPlace x2 M0).bind fun v3 => if v3 = 0 then (some (-1)) else ((fX9_common0 x1 x2 M0).bind fun v5 => some v5))
theorem fX9_common_s (x1 : Int32) (x2 : Int32) (M0 : xM) : fX9_common x1 x2 M0 = ((fX9_isPlace x1 M0).bind fun v1 => if v1 = 0 then (some (-1)) else ((fX9_isPlace x2 M0).bind fun v3 => if v3 = 0 then (some (-1)) else ((fX9_common0 x1 x2 M0).bind fun v5 => some v5))) := rfl
set_option maxHeartbeats 4000000 in
set_option maxRecDepth 100000 in
theorem qX9_common (l : Launch) (w : xT) (x1 : Int32) (x2 : Int32) (M0 : xM) (V : Int32) (hm : fX9_common x1 x2 M0 = some V) : xC l yX9_common (Cond.code yX9_common cX9_common 3 (some .int)) { frames := 1, cells := 0, slots := 0, locals := 22 } w [.ref (xa w 37), .int x1, .int x2] M0 (some (.int V)) M0 := by
  refine xC.of (by decide) (Nat.le_of_ble_eq_true rfl) ?_
  intro p e s m args below meth c ls X hP hS hl
  have hl : lv_has ls 3 [(0, .ref (xa w 37)), (1, .int x1), (2, .int x2)] := hl
  have X : xX p s m args meth c cX9_common 3 (some .int) RX9 w := X
  have hx := X.1
  have hb := X.2.1
  have hown := X.2.2.2.2.2.1
  have hts := X.2.2.2.2.2.2.1
  rw [fX9_common_s] at hm
  refine lv_aload_n hx hb dX9_common_0 rfl (lv_at hl 0 rfl) ?_
  refine lv_iload_n hx hb dX9_common_1 rfl (lv_at hl 1 rfl) ?_
  obtain ⟨v1, hg, hm⟩ := xbnd hm
  refine xcallV xm_X9_78 xt_X9_isPlace X hP hS (qX9_isPlace l w x1 M0 v1 hg) xy37 rfl ⟨Nat.le_of_ble_eq_true rfl, Nat.le_of_ble_eq_true rfl⟩ ⟨rfl, rfl⟩ hl.1 rfl (rest := []) rfl (Nat.le_of_ble_eq_true rfl) dX9_common_2 ⟨Nat.zero_le _, Nat.zero_le _⟩ (fun H locs hP hS => ?_)
  refine W.eq (g2 := F0 m 5 ls [.int v1]) rfl ?_
  refine lv_if_eq (tgt := 25) hx hb dX9_common_5 (by decide) (fun c2 => ?_) (fun c2 => ?_)
  · have hm := xift c2 hm
    refine lv_iconst (v := (-1)) hx hb dX9_common_25 (by decide) ?_
    obtain rfl := Option.some.inj hm
    exact xiret X hP hS dX9_common_26
  · have hm := xiff c2 hm
    refine lv_aload_n hx hb dX9_common_8 rfl (lv_at hl 0 rfl) ?_
    refine lv_iload_n hx hb dX9_common_9 rfl (lv_at hl 2 rfl) ?_
    obtain ⟨v3, hg, hm⟩ := xbnd hm
    refine xcallV xm_X9_78 xt_X9_isPlace X hP hS (qX9_isPlace l w x2 M0 v3 hg) xy37 rfl ⟨Nat.le_of_ble_eq_true rfl, Nat.le_of_ble_eq_true rfl⟩ ⟨rfl, rfl⟩ hl.1 rfl (rest := []) rfl (Nat.le_of_ble_eq_true rfl) dX9_common_10 ⟨Nat.zero_le _, Nat.zero_le _⟩ (fun H locs hP hS => ?_)
    refine W.eq (g2 := F0 m 13 ls [.int v3]) rfl ?_
    refine lv_if_eq (tgt := 25) hx hb dX9_common_13 (by decide) (fun c4 => ?_) (fun c4 => ?_)
    · have hm := xift c4 hm
      refine lv_iconst (v := (-1)) hx hb dX9_common_25 (by decide) ?_
      obtain rfl := Option.some.inj hm
      exact xiret X hP hS dX9_common_26
    · have hm := xiff c4 hm
      refine lv_aload_n hx hb dX9_common_16 rfl (lv_at hl 0 rfl) ?_
      refine lv_iload_n hx hb dX9_common_17 rfl (lv_at hl 1 rfl) ?_
      refine lv_iload_n hx hb dX9_common_18 rfl (lv_at hl 2 rfl) ?_
      obtain ⟨v5, hg, hm⟩ := xbnd hm
      refine xcallV xm_X9_70 xt_X9_common0 X hP hS (qX9_common0 l w x1 x2 M0 v5 hg) xy37 rfl ⟨Nat.le_of_ble_eq_true rfl, Nat.le_of_ble_eq_true rfl⟩ ⟨rfl, rfl⟩ hl.1 rfl (rest := []) rfl (Nat.le_of_ble_eq_true rfl) dX9_common_19 ⟨Nat.zero_le _, Nat.zero_le _⟩ (fun H locs hP hS => ?_)
      refine W.eq (g2 := F0 m 22 ls [.int v5]) rfl ?_
      refine lv_goto (tgt := 26) hx hb dX9_common_22 (by decide) ?_
      obtain rfl := Option.some.inj hm
      exact xiret X hP hS dX9_common_26
def fX8_copy (x1 : Int32) (x2 : Int32) (M0 : xM) : Option (Int32) := (fX7_has x1 M0).bind fun v1 => if v1 = 0 then (some (-1)) else (if x2 = 0 then (if xin x1 408 then some (M0 26 x1.toNatClampNeg) else none) else if x2 = 1 then (if xin x1 408 then some (M0 27 x1.toNatClampNeg) else none) else if x2 = 2 then (if xin x1 408 then some (M0 28 x1.toNatClampNeg) else none) else (some (-1)))
theorem fX8_copy_s (x1 : Int32) (x2 : Int32) (M0 : xM) : fX8_copy x1 x2 M0 = ((fX7_has x1 M0).bind fun v1 => if v1 = 0 then (some (-1)) else (if x2 = 0 then (if xin x1 408 then some (M0 26 x1.toNatClampNeg) else none) else if x2 = 1 then (if xin x1 408 then some (M0 27 x1.toNatClampNeg) else none) else if x2 = 2 then (if xin x1 408 then some (M0 28 x1.toNatClampNeg) else none) else (some (-1)))) := rfl
set_option maxHeartbeats 4000000 in
set_option maxRecDepth 100000 in
theorem qX8_copy (l : Launch) (w : xT) (x1 : Int32) (x2 : Int32) (M0 : xM) (V : Int32) (hm : fX8_copy x1 x2 M0 = some V) : xC l yX8_copy (Cond.code yX8_copy cX8_copy 3 (some .int)) { frames := 1, cells := 0, slots := 0, locals := 21 } w [.ref (xa w 0), .int x1, .int x2] M0 (some (.int V)) M0 := by
  refine xC.of (by decide) (Nat.le_of_ble_eq_true rfl) ?_
  intro p e s m args below meth c ls X hP hS hl
  have hl : lv_has ls 3 [(0, .ref (xa w 0)), (1, .int x1), (2, .int x2)] := hl
  have X : xX p s m args meth c cX8_copy 3 (some .int) RX8 w := X
  have hx := X.1
  have hb := X.2.1
  have hown := X.2.2.2.2.2.1
  have hts := X.2.2.2.2.2.2.1
  rw [fX8_copy_s] at hm
  refine lv_aload_n hx hb dX8_copy_0 rfl (lv_at hl 0 rfl) ?_
  refine xget xcX8 X hP 0 1 xy0 (by decide) xf_X8_19 rfl dX8_copy_1 ?_
  refine lv_iload_n hx hb dX8_copy_4 rfl (lv_at hl 1 rfl) ?_
  obtain ⟨v1, hg, hm⟩ := xbnd hm
  refine xcallV xm_X8_99 xt_X7_has X hP hS (qX7_has l w x1 M0 v1 hg) xy4 rfl ⟨Nat.le_of_ble_eq_true rfl, Nat.le_of_ble_eq_true rfl⟩ ⟨rfl, rfl⟩ hl.1 rfl (rest := []) rfl (Nat.le_of_ble_eq_true rfl) dX8_copy_5 ⟨Nat.zero_le _, Nat.zero_le _⟩ (fun H locs hP hS => ?_)
  refine W.eq (g2 := F0 m 8 ls [.int v1]) rfl ?_
  refine lv_if_ne (tgt := 13) hx hb dX8_copy_8 (by decide) (fun c2 => ?_) (fun c2 => ?_)
  · have hm := xiff c2 hm
    refine lv_iload_n hx hb dX8_copy_13 rfl (lv_at hl 2 rfl) ?_
    by_cases c3 : x2 = 0
    · have hm := xift c3 hm
      refine lv_tableIn (tgt := 40) (off := 26) hx hb dX8_copy_14 (by rw [c3]; decide) (by rw [c3]; decide) (by rw [c3]; rfl) (by decide) ?_
      refine lv_aload_n hx hb dX8_copy_40 rfl (lv_at hl 0 rfl) ?_
      refine xget xcX8 X hP 0 3 xy0 (by decide) xf_X8_37 rfl dX8_copy_41 ?_
      refine xget xcX0 X hP 25 0 xy25 (by decide) xf_X8_128 rfl dX8_copy_44 ?_
      refine lv_iload_n hx hb dX8_copy_47 rfl (lv_at hl 1 rfl) ?_
      obtain ⟨hi4, hm⟩ := xifn hm
      refine xiald X hP 26 xy26 hi4 dX8_copy_48 ?_
      obtain rfl := Option.some.inj hm
      exact xiret X hP hS dX8_copy_49
    have hm := xiff c3 hm
    by_cases c5 : x2 = 1
    · have hm := xift c5 hm
      refine lv_tableIn (tgt := 50) (off := 36) hx hb dX8_copy_14 (by rw [c5]; decide) (by rw [c5]; decide) (by rw [c5]; rfl) (by decide) ?_
      refine lv_aload_n hx hb dX8_copy_50 rfl (lv_at hl 0 rfl) ?_
      refine xget xcX8 X hP 0 3 xy0 (by decide) xf_X8_37 rfl dX8_copy_51 ?_
      refine xget xcX0 X hP 25 1 xy25 (by decide) xf_X8_129 rfl dX8_copy_54 ?_
      refine lv_iload_n hx hb dX8_copy_57 rfl (lv_at hl 1 rfl) ?_
      obtain ⟨hi6, hm⟩ := xifn hm
      refine xiald X hP 27 xy27 hi6 dX8_copy_58 ?_
      obtain rfl := Option.some.inj hm
      exact xiret X hP hS dX8_copy_59
    have hm := xiff c5 hm
    by_cases c7 : x2 = 2
    · have hm := xift c7 hm
      refine lv_tableIn (tgt := 60) (off := 46) hx hb dX8_copy_14 (by rw [c7]; decide) (by rw [c7]; decide) (by rw [c7]; rfl) (by decide) ?_
      refine lv_aload_n hx hb dX8_copy_60 rfl (lv_at hl 0 rfl) ?_
      refine xget xcX8 X hP 0 3 xy0 (by decide) xf_X8_37 rfl dX8_copy_61 ?_
      refine xget xcX0 X hP 25 2 xy25 (by decide) xf_X8_132 rfl dX8_copy_64 ?_
      refine lv_iload_n hx hb dX8_copy_67 rfl (lv_at hl 1 rfl) ?_
      obtain ⟨hi8, hm⟩ := xifn hm
      refine xiald X hP 28 xy28 hi8 dX8_copy_68 ?_
      obtain rfl := Option.some.inj hm
      exact xiret X hP hS dX8_copy_69
    have hm := xiff c7 hm
    have gc3 := lv_neT (a := 0) c3 rfl
    have gc5 := lv_neT (a := 1) c5 rfl
    have gc7 := lv_neT (a := 2) c7 rfl
    refine lv_tableOut (tgt := 70) hx hb dX8_copy_14 (by omega) (by decide) ?_
    refine lv_iconst (v := (-1)) hx hb dX8_copy_70 (by decide) ?_
    obtain rfl := Option.some.inj hm
    exact xiret X hP hS dX8_copy_71
  · have hm := xift c2 hm
    refine lv_iconst (v := (-1)) hx hb dX8_copy_11 (by decide) ?_
    obtain rfl := Option.some.inj hm
    exact xiret X hP hS dX8_copy_12
def fX9_copyOf_42 (k4 : Int32 → Int32 → Int32 → xM → Option (Int32)) (x1 : Int32) (x3 : Int32) (s0 : Int32) (M0 : xM) : Option (Int32) := k4 x1 s0 (x3 + 1) M0
theorem fX9_copyOf_42_s (k4 : Int32 → Int32 → Int32 → xM → Option (Int32)) (x1 : Int32) (x3 : Int32) (s0 : Int32) (M0 : xM) : fX9_copyOf_42 k4 x1 x3 s0 M0 = (k4 x1 s0 (x3 + 1) M0) := rfl
set_option maxHeartbeats 4000000 in
set_option maxRecDepth 100000 in
theorem kX9_copyOf_42 {p : Program} {l : Launch} {e : Env} {s : State} {m : MethodId} {args : Array Value} {below : List Frame} {meth : Method} {c : Code} {w : xT} (X : xX p s m args meth c cX9_copyOf 5 (some .int) RX9 w) (V : Int32) (k4 : Int32 → Int32 → Int32 → xM → Option (Int32)) (hk4 : ∀ (x1 : Int32) (x2 : Int32) (x3 : Int32) (M : xM) (H : Heap) (locs : List Loc) (ls : Array Slot), k4 x1 x2 x3 M = some V → xP w M H → xS w s H locs → lv_has ls 5 [(0, .ref (xa w 37)), (1, .int x1), (2, .int x2), (3, .int x3)] → W p l e { frames := 1, cells := 0, slots := 0, locals := 22 } s m args below meth c H locs 0 0 (xQ w (some (.int V)) M below args s) (F0 m 4 ls [])) : ∀ (x1 : Int32) (x3 : Int32) (s0 : Int32) (M0 : xM) (H : Heap) (locs : List Loc) (ls : Array Slot), fX9_copyOf_42 k4 x1 x3 s0 M0 = some V → xP w M0 H → xS w s H locs → lv_has ls 5 [(0, .ref (xa w 37)), (1, .int x1), (3, .int x3)] → W p l e { frames := 1, cells := 0, slots := 0, locals := 22 } s m args below meth c H locs 0 0 (xQ w (some (.int V)) M0 below args s) (F0 m 42 ls [.int s0]) := by
  have hx := X.1
  have hb := X.2.1
  have hown := X.2.2.2.2.2.1
  have hts := X.2.2.2.2.2.2.1
  intro x1 x3 s0 M0 H locs ls hm hP hS hl
  rw [fX9_copyOf_42_s] at hm
  refine lv_istore_n (lv' := [(2, .int s0), (0, .ref (xa w 37)), (1, .int x1), (3, .int x3)]) hx hb dX9_copyOf_42 rfl hl (by decide) rfl (fun ls hl => ?_)
  refine lv_iinc (v := x3 + 1) (lv' := [(3, .int (x3 + 1)), (2, .int s0), (0, .ref (xa w 37)), (1, .int x1)]) hx hb dX9_copyOf_43 hl (k := 3) rfl rfl (by decide) rfl (fun ls hl => ?_)
  refine lv_goto (tgt := 4) hx hb dX9_copyOf_46 (by decide) ?_
  exact hk4 x1 s0 (x3 + 1) M0 _ _ _ hm hP hS (lv_sub hl [2, 3, 1, 0] rfl)
def fX9_copyOf_41 (k4 : Int32 → Int32 → Int32 → xM → Option (Int32)) (x1 : Int32) (x2 : Int32) (x3 : Int32) (M0 : xM) : Option (Int32) := fX9_copyOf_42 k4 x1 x3 x2 M0
theorem fX9_copyOf_41_s (k4 : Int32 → Int32 → Int32 → xM → Option (Int32)) (x1 : Int32) (x2 : Int32) (x3 : Int32) (M0 : xM) : fX9_copyOf_41 k4 x1 x2 x3 M0 = (fX9_copyOf_42 k4 x1 x3 x2 M0) := rfl
set_option maxHeartbeats 4000000 in
set_option maxRecDepth 100000 in
theorem kX9_copyOf_41 {p : Program} {l : Launch} {e : Env} {s : State} {m : MethodId} {args : Array Value} {below : List Frame} {meth : Method} {c : Code} {w : xT} (X : xX p s m args meth c cX9_copyOf 5 (some .int) RX9 w) (V : Int32) (k4 : Int32 → Int32 → Int32 → xM → Option (Int32)) (hk4 : ∀ (x1 : Int32) (x2 : Int32) (x3 : Int32) (M : xM) (H : Heap) (locs : List Loc) (ls : Array Slot), k4 x1 x2 x3 M = some V → xP w M H → xS w s H locs → lv_has ls 5 [(0, .ref (xa w 37)), (1, .int x1), (2, .int x2), (3, .int x3)] → W p l e { frames := 1, cells := 0, slots := 0, locals := 22 } s m args below meth c H locs 0 0 (xQ w (some (.int V)) M below args s) (F0 m 4 ls [])) : ∀ (x1 : Int32) (x2 : Int32) (x3 : Int32) (M0 : xM) (H : Heap) (locs : List Loc) (ls : Array Slot), fX9_copyOf_41 k4 x1 x2 x3 M0 = some V → xP w M0 H → xS w s H locs → lv_has ls 5 [(0, .ref (xa w 37)), (1, .int x1), (2, .int x2), (3, .int x3)] → W p l e { frames := 1, cells := 0, slots := 0, locals := 22 } s m args below meth c H locs 0 0 (xQ w (some (.int V)) M0 below args s) (F0 m 41 ls []) := by
  have hx := X.1
  have hb := X.2.1
  have hown := X.2.2.2.2.2.1
  have hts := X.2.2.2.2.2.2.1
  intro x1 x2 x3 M0 H locs ls hm hP hS hl
  rw [fX9_copyOf_41_s] at hm
  refine lv_iload_n hx hb dX9_copyOf_41 rfl (lv_at hl 2 rfl) ?_
  exact kX9_copyOf_42 X V k4 hk4 x1 x3 x2 M0 _ _ _ hm hP hS (lv_sub hl [0, 1, 3] rfl)
def fX9_copyOf_37 (k4 : Int32 → Int32 → Int32 → xM → Option (Int32)) (x1 : Int32) (x3 : Int32) (M0 : xM) : Option (Int32) := fX9_copyOf_42 k4 x1 x3 x3 M0
theorem fX9_copyOf_37_s (k4 : Int32 → Int32 → Int32 → xM → Option (Int32)) (x1 : Int32) (x3 : Int32) (M0 : xM) : fX9_copyOf_37 k4 x1 x3 M0 = (fX9_copyOf_42 k4 x1 x3 x3 M0) := rfl
set_option maxHeartbeats 4000000 in
set_option maxRecDepth 100000 in
theorem kX9_copyOf_37 {p : Program} {l : Launch} {e : Env} {s : State} {m : MethodId} {args : Array Value} {below : List Frame} {meth : Method} {c : Code} {w : xT} (X : xX p s m args meth c cX9_copyOf 5 (some .int) RX9 w) (V : Int32) (k4 : Int32 → Int32 → Int32 → xM → Option (Int32)) (hk4 : ∀ (x1 : Int32) (x2 : Int32) (x3 : Int32) (M : xM) (H : Heap) (locs : List Loc) (ls : Array Slot), k4 x1 x2 x3 M = some V → xP w M H → xS w s H locs → lv_has ls 5 [(0, .ref (xa w 37)), (1, .int x1), (2, .int x2), (3, .int x3)] → W p l e { frames := 1, cells := 0, slots := 0, locals := 22 } s m args below meth c H locs 0 0 (xQ w (some (.int V)) M below args s) (F0 m 4 ls [])) : ∀ (x1 : Int32) (x3 : Int32) (M0 : xM) (H : Heap) (locs : List Loc) (ls : Array Slot), fX9_copyOf_37 k4 x1 x3 M0 = some V → xP w M0 H → xS w s H locs → lv_has ls 5 [(0, .ref (xa w 37)), (1, .int x1), (3, .int x3)] → W p l e { frames := 1, cells := 0, slots := 0, locals := 22 } s m args below meth c H locs 0 0 (xQ w (some (.int V)) M0 below args s) (F0 m 37 ls []) := by
  have hx := X.1
  have hb := X.2.1
  have hown := X.2.2.2.2.2.1
  have hts := X.2.2.2.2.2.2.1
  intro x1 x3 M0 H locs ls hm hP hS hl
  rw [fX9_copyOf_37_s] at hm
  refine lv_iload_n hx hb dX9_copyOf_37 rfl (lv_at hl 2 rfl) ?_
  refine lv_goto (tgt := 42) hx hb dX9_copyOf_38 (by decide) ?_
  exact kX9_copyOf_42 X V k4 hk4 x1 x3 x3 M0 _ _ _ hm hP hS (lv_sub hl [0, 1, 2] rfl)
def fX9_copyOf_4  : Nat → Int32 → Int32 → Int32 → xM → Option (Int32)
  | 0 => fun _ _ _ _ => none
  | n + 1 => fun x1 x2 x3 M0 => if x1 ≤ x3 then (some x2) else ((fX9_common0 x1 x3 M0).bind fun v2 => if v2 ≤ 0 then (fX9_copyOf_41 (fX9_copyOf_4 n) x1 x2 x3 M0) else (if x2 < 0 then (fX9_copyOf_37 (fX9_copyOf_4 n) x1 x3 M0) else ((fX9_common0 x1 x2 M0).bind fun v5 => if v2 ≤ v5 then (fX9_copyOf_41 (fX9_copyOf_4 n) x1 x2 x3 M0) else (fX9_copyOf_37 (fX9_copyOf_4 n) x1 x3 M0))))
theorem fX9_copyOf_4_s  (n : Nat) (x1 : Int32) (x2 : Int32) (x3 : Int32) (M0 : xM) : fX9_copyOf_4  (n + 1) x1 x2 x3 M0 = (if x1 ≤ x3 then (some x2) else ((fX9_common0 x1 x3 M0).bind fun v2 => if v2 ≤ 0 then (fX9_copyOf_41 (fX9_copyOf_4 n) x1 x2 x3 M0) else (if x2 < 0 then (fX9_copyOf_37 (fX9_copyOf_4 n) x1 x3 M0) else ((fX9_common0 x1 x2 M0).bind fun v5 => if v2 ≤ v5 then (fX9_copyOf_41 (fX9_copyOf_4 n) x1 x2 x3 M0) else (fX9_copyOf_37 (fX9_copyOf_4 n) x1 x3 M0))))) := rfl
set_option maxHeartbeats 4000000 in
set_option maxRecDepth 100000 in
theorem kX9_copyOf_4 {p : Program} {l : Launch} {e : Env} {s : State} {m : MethodId} {args : Array Value} {below : List Frame} {meth : Method} {c : Code} {w : xT} (X : xX p s m args meth c cX9_copyOf 5 (some .int) RX9 w) (V : Int32)  : ∀ (n : Nat) (x1 : Int32) (x2 : Int32) (x3 : Int32) (M0 : xM) (H : Heap) (locs : List Loc) (ls : Array Slot), fX9_copyOf_4  n x1 x2 x3 M0 = some V → xP w M0 H → xS w s H locs → lv_has ls 5 [(0, .ref (xa w 37)), (1, .int x1), (2, .int x2), (3, .int x3)] → W p l e { frames := 1, cells := 0, slots := 0, locals := 22 } s m args below meth c H locs 0 0 (xQ w (some (.int V)) M0 below args s) (F0 m 4 ls []) := by
  have hx := X.1
  have hb := X.2.1
  have hown := X.2.2.2.2.2.1
  have hts := X.2.2.2.2.2.2.1
  intro n
  induction n with
  | zero => intro x1 x2 x3 M0 H locs ls hm hP hS hl; exact xnon hm
  | succ n ih =>
    intro x1 x2 x3 M0 H locs ls hm hP hS hl
    rw [fX9_copyOf_4_s] at hm
    refine lv_iload_n hx hb dX9_copyOf_4 rfl (lv_at hl 3 rfl) ?_
    refine lv_iload_n hx hb dX9_copyOf_5 rfl (lv_at hl 1 rfl) ?_
    refine lv_icmp_ge (tgt := 49) hx hb dX9_copyOf_6 (by decide) (fun c1 => ?_) (fun c1 => ?_)
    · have hm := xift c1 hm
      refine lv_iload_n hx hb dX9_copyOf_49 rfl (lv_at hl 2 rfl) ?_
      obtain rfl := Option.some.inj hm
      exact xiret X hP hS dX9_copyOf_50
    · have hm := xiff c1 hm
      refine lv_aload_n hx hb dX9_copyOf_9 rfl (lv_at hl 0 rfl) ?_
      refine lv_iload_n hx hb dX9_copyOf_10 rfl (lv_at hl 1 rfl) ?_
      refine lv_iload_n hx hb dX9_copyOf_11 rfl (lv_at hl 3 rfl) ?_
      obtain ⟨v2, hg, hm⟩ := xbnd hm
      refine xcallV xm_X9_70 xt_X9_common0 X hP hS (qX9_common0 l w x1 x3 M0 v2 hg) xy37 rfl ⟨Nat.le_of_ble_eq_true rfl, Nat.le_of_ble_eq_true rfl⟩ ⟨rfl, rfl⟩ hl.1 rfl (rest := []) rfl (Nat.le_of_ble_eq_true rfl) dX9_copyOf_12 ⟨Nat.zero_le _, Nat.zero_le _⟩ (fun H locs hP hS => ?_)
      refine W.eq (g2 := F0 m 15 ls [.int v2]) rfl ?_
      refine lv_istore (lv' := [(4, .int v2), (0, .ref (xa w 37)), (1, .int x1), (2, .int x2), (3, .int x3)]) hx hb dX9_copyOf_15 hl (by decide) rfl (fun ls hl => ?_)
      refine lv_iload hx hb dX9_copyOf_17 (lv_at hl 0 rfl) ?_
      refine lv_if_le (tgt := 41) hx hb dX9_copyOf_19 (by decide) (fun c3 => ?_) (fun c3 => ?_)
      · have hm := xift c3 hm
        exact kX9_copyOf_41 X V (fX9_copyOf_4 n) ih x1 x2 x3 M0 _ _ _ hm hP hS (lv_sub hl [1, 2, 3, 4] rfl)
      · have hm := xiff c3 hm
        refine lv_iload_n hx hb dX9_copyOf_22 rfl (lv_at hl 3 rfl) ?_
        refine lv_if_lt (tgt := 37) hx hb dX9_copyOf_23 (by decide) (fun c4 => ?_) (fun c4 => ?_)
        · have hm := xift c4 hm
          exact kX9_copyOf_37 X V (fX9_copyOf_4 n) ih x1 x3 M0 _ _ _ hm hP hS (lv_sub hl [1, 2, 4] rfl)
        · have hm := xiff c4 hm
          refine lv_iload hx hb dX9_copyOf_26 (lv_at hl 0 rfl) ?_
          refine lv_aload_n hx hb dX9_copyOf_28 rfl (lv_at hl 1 rfl) ?_
          refine lv_iload_n hx hb dX9_copyOf_29 rfl (lv_at hl 2 rfl) ?_
          refine lv_iload_n hx hb dX9_copyOf_30 rfl (lv_at hl 3 rfl) ?_
          obtain ⟨v5, hg, hm⟩ := xbnd hm
          refine xcallV xm_X9_70 xt_X9_common0 X hP hS (qX9_common0 l w x1 x2 M0 v5 hg) xy37 rfl ⟨Nat.le_of_ble_eq_true rfl, Nat.le_of_ble_eq_true rfl⟩ ⟨rfl, rfl⟩ hl.1 rfl (rest := [.int v2]) rfl (Nat.le_of_ble_eq_true rfl) dX9_copyOf_31 ⟨Nat.zero_le _, Nat.zero_le _⟩ (fun H locs hP hS => ?_)
          refine W.eq (g2 := F0 m 34 ls [.int v5, .int v2]) rfl ?_
          refine lv_icmp_le (tgt := 41) hx hb dX9_copyOf_34 (by decide) (fun c6 => ?_) (fun c6 => ?_)
          · have hm := xift c6 hm
            exact kX9_copyOf_41 X V (fX9_copyOf_4 n) ih x1 x2 x3 M0 _ _ _ hm hP hS (lv_sub hl [1, 2, 3, 4] rfl)
          · have hm := xiff c6 hm
            exact kX9_copyOf_37 X V (fX9_copyOf_4 n) ih x1 x3 M0 _ _ _ hm hP hS (lv_sub hl [1, 2, 4] rfl)
def fX9_copyOf (x1 : Int32) (M0 : xM) : Option (Int32) := fX9_copyOf_4 4096 x1 (-1) 0 M0
theorem fX9_copyOf_s (x1 : Int32) (M0 : xM) : fX9_copyOf x1 M0 = (fX9_copyOf_4 4096 x1 (-1) 0 M0) := rfl
set_option maxHeartbeats 4000000 in
set_option maxRecDepth 100000 in
theorem qX9_copyOf (l : Launch) (w : xT) (x1 : Int32) (M0 : xM) (V : Int32) (hm : fX9_copyOf x1 M0 = some V) : xC l yX9_copyOf (Cond.code yX9_copyOf cX9_copyOf 5 (some .int)) { frames := 1, cells := 0, slots := 0, locals := 22 } w [.ref (xa w 37), .int x1] M0 (some (.int V)) M0 := by
  refine xC.of (by decide) (Nat.le_of_ble_eq_true rfl) ?_
  intro p e s m args below meth c ls X hP hS hl
  have hl : lv_has ls 5 [(0, .ref (xa w 37)), (1, .int x1)] := hl
  have X : xX p s m args meth c cX9_copyOf 5 (some .int) RX9 w := X
  have hx := X.1
  have hb := X.2.1
  have hown := X.2.2.2.2.2.1
  have hts := X.2.2.2.2.2.2.1
  rw [fX9_copyOf_s] at hm
  refine lv_iconst (v := (-1)) hx hb dX9_copyOf_0 (by decide) ?_
  refine lv_istore_n (lv' := [(2, .int (-1)), (0, .ref (xa w 37)), (1, .int x1)]) hx hb dX9_copyOf_1 rfl hl (by decide) rfl (fun ls hl => ?_)
  refine lv_iconst (v := 0) hx hb dX9_copyOf_2 (by decide) ?_
  refine lv_istore_n (lv' := [(3, .int 0), (2, .int (-1)), (0, .ref (xa w 37)), (1, .int x1)]) hx hb dX9_copyOf_3 rfl hl (by decide) rfl (fun ls hl => ?_)
  exact kX9_copyOf_4 X V  4096 x1 (-1) 0 M0 _ _ _ hm hP hS (lv_sub hl [2, 3, 1, 0] rfl)
