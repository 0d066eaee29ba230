def fX9_copy_96 (k59 : Int32 → Int32 → xM → Option (Int32)) (x4 : Int32) (s0 : Int32) (s1 : Int32) (M0 : xM) : Option (Int32) := k59 (x4 + 1) (s0 + s1) M0
theorem fX9_copy_96_s (k59 : Int32 → Int32 → xM → Option (Int32)) (x4 : Int32) (s0 : Int32) (s1 : Int32) (M0 : xM) : fX9_copy_96 k59 x4 s0 s1 M0 = (k59 (x4 + 1) (s0 + s1) M0) := rfl
set_option maxHeartbeats 4000000 in
set_option maxRecDepth 100000 in
theorem kX9_copy_96 {p : Program} {l : Launch} {e : Env} {s : State} {m : MethodId} {args : Array Value} {below : List Frame} {meth : Method} {c : Code} {w : xT} (X : xX p s m args meth c cX9_copy 7 (some .int) RX9 w) (V : Int32) (k59 : Int32 → Int32 → xM → Option (Int32)) (hk59 : ∀ (x4 : Int32) (x5 : Int32) (M : xM) (H : Heap) (locs : List Loc) (ls : Array Slot), k59 x4 x5 M = some V → xP w M H → xS w s H locs → lv_has ls 7 [(0, .ref (xa w 37)), (4, .int x4), (5, .int x5)] → W p l e { frames := 2, cells := 0, slots := 0, locals := 46 } s m args below meth c H locs 0 0 (xQ w (some (.int V)) M below args s) (F0 m 59 ls [])) : ∀ (x4 : Int32) (s0 : Int32) (s1 : Int32) (M0 : xM) (H : Heap) (locs : List Loc) (ls : Array Slot), fX9_copy_96 k59 x4 s0 s1 M0 = some V → xP w M0 H → xS w s H locs → lv_has ls 7 [(0, .ref (xa w 37)), (4, .int x4)] → W p l e { frames := 2, cells := 0, slots := 0, locals := 46 } s m args below meth c H locs 0 0 (xQ w (some (.int V)) M0 below args s) (F0 m 96 ls [.int s1, .int s0]) := by
  have hx := X.1
  have hb := X.2.1
  have hown := X.2.2.2.2.2.1
  have hts := X.2.2.2.2.2.2.1
  intro x4 s0 s1 M0 H locs ls hm hP hS hl
  rw [fX9_copy_96_s] at hm
  refine lv_iadd hx hb dX9_copy_96 ?_
  refine lv_istore (lv' := [(5, .int (s0 + s1)), (0, .ref (xa w 37)), (4, .int x4)]) hx hb dX9_copy_97 hl (by decide) rfl (fun ls hl => ?_)
  refine lv_iinc (v := x4 + 1) (lv' := [(4, .int (x4 + 1)), (5, .int (s0 + s1)), (0, .ref (xa w 37))]) hx hb dX9_copy_99 hl (k := 2) rfl rfl (by decide) rfl (fun ls hl => ?_)
  refine lv_goto (tgt := 59) hx hb dX9_copy_102 (by decide) ?_
  exact hk59 (x4 + 1) (s0 + s1) M0 _ _ _ hm hP hS (lv_sub hl [2, 0, 1] rfl)
def fX9_copy_59  : Nat → Int32 → Int32 → xM → Option (Int32)
  | 0 => fun _ _ _ => none
  | n + 1 => fun x4 x5 M0 => if xin x5 408 then if (M0 40 x5.toNatClampNeg) < 0 then (some x4) else ((fX9_copyOf x5 M0).bind fun v3 => if 0 ≤ v3 then ((fX9_common0 x5 v3 M0).bind fun v5 => fX9_copy_96 (fX9_copy_59 n) x4 x5 v5 M0) else (fX9_copy_96 (fX9_copy_59 n) x4 x5 1 M0)) else none
theorem fX9_copy_59_s  (n : Nat) (x4 : Int32) (x5 : Int32) (M0 : xM) : fX9_copy_59  (n + 1) x4 x5 M0 = (if xin x5 408 then if (M0 40 x5.toNatClampNeg) < 0 then (some x4) else ((fX9_copyOf x5 M0).bind fun v3 => if 0 ≤ v3 then ((fX9_common0 x5 v3 M0).bind fun v5 => fX9_copy_96 (fX9_copy_59 n) x4 x5 v5 M0) else (fX9_copy_96 (fX9_copy_59 n) x4 x5 1 M0)) else none) := rfl
set_option maxHeartbeats 4000000 in
set_option maxRecDepth 100000 in
theorem kX9_copy_59 {p : Program} {l : Launch} {e : Env} {s : State} {m : MethodId} {args : Array Value} {below : List Frame} {meth : Method} {c : Code} {w : xT} (X : xX p s m args meth c cX9_copy 7 (some .int) RX9 w) (V : Int32)  : ∀ (n : Nat) (x4 : Int32) (x5 : Int32) (M0 : xM) (H : Heap) (locs : List Loc) (ls : Array Slot), fX9_copy_59  n x4 x5 M0 = some V → xP w M0 H → xS w s H locs → lv_has ls 7 [(0, .ref (xa w 37)), (4, .int x4), (5, .int x5)] → W p l e { frames := 2, cells := 0, slots := 0, locals := 46 } s m args below meth c H locs 0 0 (xQ w (some (.int V)) M0 below args s) (F0 m 59 ls []) := by
  have hx := X.1
  have hb := X.2.1
  have hown := X.2.2.2.2.2.1
  have hts := X.2.2.2.2.2.2.1
  intro n
  induction n with
  | zero => intro x4 x5 M0 H locs ls hm hP hS hl; exact xnon hm
  | succ n ih =>
    intro x4 x5 M0 H locs ls hm hP hS hl
    rw [fX9_copy_59_s] at hm
    refine lv_aload_n hx hb dX9_copy_59 rfl (lv_at hl 0 rfl) ?_
    refine xget xcX9 X hP 37 3 xy37 (by decide) xf_X9_16 rfl dX9_copy_60 ?_
    refine lv_iload hx hb dX9_copy_63 (lv_at hl 2 rfl) ?_
    obtain ⟨hi1, hm⟩ := xifn hm
    refine xiald X hP 40 xy40 hi1 dX9_copy_65 ?_
    refine lv_if_lt (tgt := 105) hx hb dX9_copy_66 (by decide) (fun c2 => ?_) (fun c2 => ?_)
    · have hm := xift c2 hm
      refine lv_iload hx hb dX9_copy_105 (lv_at hl 1 rfl) ?_
      obtain rfl := Option.some.inj hm
      exact xiret X hP hS dX9_copy_107
    · have hm := xiff c2 hm
      refine lv_aload_n hx hb dX9_copy_69 rfl (lv_at hl 0 rfl) ?_
      refine lv_iload hx hb dX9_copy_70 (lv_at hl 2 rfl) ?_
      obtain ⟨v3, hg, hm⟩ := xbnd hm
      refine xcallV xm_X9_85 xt_X9_copyOf X hP hS (qX9_copyOf l w x5 M0 v3 hg) xy37 rfl ⟨Nat.le_of_ble_eq_true rfl, Nat.le_of_ble_eq_true rfl⟩ ⟨rfl, rfl⟩ hl.1 rfl (rest := []) rfl (Nat.le_of_ble_eq_true rfl) dX9_copy_72 ⟨Nat.zero_le _, Nat.zero_le _⟩ (fun H locs hP hS => ?_)
      refine W.eq (g2 := F0 m 75 ls [.int v3]) rfl ?_
      refine lv_istore (lv' := [(6, .int v3), (0, .ref (xa w 37)), (4, .int x4), (5, .int x5)]) hx hb dX9_copy_75 hl (by decide) rfl (fun ls hl => ?_)
      refine lv_iload hx hb dX9_copy_77 (lv_at hl 3 rfl) ?_
      refine lv_iload hx hb dX9_copy_79 (lv_at hl 0 rfl) ?_
      refine lv_if_ge (tgt := 88) hx hb dX9_copy_81 (by decide) (fun c4 => ?_) (fun c4 => ?_)
      · have hm := xift c4 hm
        refine lv_aload_n hx hb dX9_copy_88 rfl (lv_at hl 1 rfl) ?_
        refine lv_iload hx hb dX9_copy_89 (lv_at hl 3 rfl) ?_
        refine lv_iload hx hb dX9_copy_91 (lv_at hl 0 rfl) ?_
        obtain ⟨v5, hg, hm⟩ := xbnd hm
        refine xcallV xm_X9_70 xt_X9_common0 X hP hS (qX9_common0 l w x5 v3 M0 v5 hg) xy37 rfl ⟨Nat.le_of_ble_eq_true rfl, Nat.le_of_ble_eq_true rfl⟩ ⟨rfl, rfl⟩ hl.1 rfl (rest := [.int x5]) rfl (Nat.le_of_ble_eq_true rfl) dX9_copy_93 ⟨Nat.zero_le _, Nat.zero_le _⟩ (fun H locs hP hS => ?_)
        refine W.eq (g2 := F0 m 96 ls [.int v5, .int x5]) rfl ?_
        exact kX9_copy_96 X V (fX9_copy_59 n) ih x4 x5 v5 M0 _ _ _ hm hP hS (lv_sub hl [1, 2] rfl)
      · have hm := xiff c4 hm
        refine lv_iconst (v := 1) hx hb dX9_copy_84 (by decide) ?_
        refine lv_goto (tgt := 96) hx hb dX9_copy_85 (by decide) ?_
        exact kX9_copy_96 X V (fX9_copy_59 n) ih x4 x5 1 M0 _ _ _ hm hP hS (lv_sub hl [1, 2] rfl)
def fX9_copy (x1 : Int32) (x2 : Int32) (M0 : xM) : Option (Int32) := (fX9_isPlace x1 M0).bind fun v6 => if v6 = 0 then (some (-1)) else (if x2 < 0 then (some (-1)) else (if x2 ≤ 2 then ((fX9_copyOf x1 M0).bind fun v10 => if 2 ≤ x2 then (fX9_copy_59 4096 0 x1 M0) else (if x2 = 0 then (some v10) else (if 0 ≤ v10 then ((fX9_common0 x1 v10 M0).bind fun v14 => some v14) else (some 0)))) else (some (-1))))
theorem fX9_copy_s (x1 : Int32) (x2 : Int32) (M0 : xM) : fX9_copy x1 x2 M0 = ((fX9_isPlace x1 M0).bind fun v6 => if v6 = 0 then (some (-1)) else (if x2 < 0 then (some (-1)) else (if x2 ≤ 2 then ((fX9_copyOf x1 M0).bind fun v10 => if 2 ≤ x2 then (fX9_copy_59 4096 0 x1 M0) else (if x2 = 0 then (some v10) else (if 0 ≤ v10 then ((fX9_common0 x1 v10 M0).bind fun v14 => some v14) else (some 0)))) else (some (-1))))) := rfl
set_option maxHeartbeats 4000000 in
set_option maxRecDepth 100000 in
theorem qX9_copy (l : Launch) (w : xT) (x1 : Int32) (x2 : Int32) (M0 : xM) (V : Int32) (hm : fX9_copy x1 x2 M0 = some V) : xC l yX9_copy (Cond.code yX9_copy cX9_copy 7 (some .int)) { frames := 2, cells := 0, slots := 0, locals := 46 } w [.ref (xa w 37), .int x1, .int x2] M0 (some (.int V)) M0 := by
  refine xC.of (by decide) (Nat.le_of_ble_eq_true rfl) ?_
  intro p e s m args below meth c ls X hP hS hl
  have hl : lv_has ls 7 [(0, .ref (xa w 37)), (1, .int x1), (2, .int x2)] := hl
  have X : xX p s m args meth c cX9_copy 7 (some .int) RX9 w := X
  have hx := X.1
  have hb := X.2.1
  have hown := X.2.2.2.2.2.1
  have hts := X.2.2.2.2.2.2.1
  rw [fX9_copy_s] at hm
  refine lv_aload_n hx hb dX9_copy_0 rfl (lv_at hl 0 rfl) ?_
  refine lv_iload_n hx hb dX9_copy_1 rfl (lv_at hl 1 rfl) ?_
  obtain ⟨v6, hg, hm⟩ := xbnd hm
  refine xcallV xm_X9_78 xt_X9_isPlace X hP hS (qX9_isPlace l w x1 M0 v6 hg) xy37 rfl ⟨Nat.le_of_ble_eq_true rfl, Nat.le_of_ble_eq_true rfl⟩ ⟨rfl, rfl⟩ hl.1 rfl (rest := []) rfl (Nat.le_of_ble_eq_true rfl) dX9_copy_2 ⟨Nat.zero_le _, Nat.zero_le _⟩ (fun H locs hP hS => ?_)
  refine W.eq (g2 := F0 m 5 ls [.int v6]) rfl ?_
  refine lv_if_eq (tgt := 17) hx hb dX9_copy_5 (by decide) (fun c7 => ?_) (fun c7 => ?_)
  · have hm := xift c7 hm
    refine lv_iconst (v := (-1)) hx hb dX9_copy_17 (by decide) ?_
    obtain rfl := Option.some.inj hm
    exact xiret X hP hS dX9_copy_18
  · have hm := xiff c7 hm
    refine lv_iload_n hx hb dX9_copy_8 rfl (lv_at hl 2 rfl) ?_
    refine lv_if_lt (tgt := 17) hx hb dX9_copy_9 (by decide) (fun c8 => ?_) (fun c8 => ?_)
    · have hm := xift c8 hm
      refine lv_iconst (v := (-1)) hx hb dX9_copy_17 (by decide) ?_
      obtain rfl := Option.some.inj hm
      exact xiret X hP hS dX9_copy_18
    · have hm := xiff c8 hm
      refine lv_iload_n hx hb dX9_copy_12 rfl (lv_at hl 2 rfl) ?_
      refine lv_iconst (v := 2) hx hb dX9_copy_13 (by decide) ?_
      refine lv_icmp_le (tgt := 19) hx hb dX9_copy_14 (by decide) (fun c9 => ?_) (fun c9 => ?_)
      · have hm := xift c9 hm
        refine lv_aload_n hx hb dX9_copy_19 rfl (lv_at hl 0 rfl) ?_
        refine lv_iload_n hx hb dX9_copy_20 rfl (lv_at hl 1 rfl) ?_
        obtain ⟨v10, hg, hm⟩ := xbnd hm
        refine xcallV xm_X9_85 xt_X9_copyOf X hP hS (qX9_copyOf l w x1 M0 v10 hg) xy37 rfl ⟨Nat.le_of_ble_eq_true rfl, Nat.le_of_ble_eq_true rfl⟩ ⟨rfl, rfl⟩ hl.1 rfl (rest := []) rfl (Nat.le_of_ble_eq_true rfl) dX9_copy_21 ⟨Nat.zero_le _, Nat.zero_le _⟩ (fun H locs hP hS => ?_)
        refine W.eq (g2 := F0 m 24 ls [.int v10]) rfl ?_
        refine lv_istore_n (lv' := [(3, .int v10), (0, .ref (xa w 37)), (1, .int x1), (2, .int x2)]) hx hb dX9_copy_24 rfl hl (by decide) rfl (fun ls hl => ?_)
        refine lv_iload_n hx hb dX9_copy_25 rfl (lv_at hl 3 rfl) ?_
        refine lv_iconst (v := 2) hx hb dX9_copy_26 (by decide) ?_
        refine lv_icmp_ge (tgt := 53) hx hb dX9_copy_27 (by decide) (fun c11 => ?_) (fun c11 => ?_)
        · have hm := xift c11 hm
          refine lv_iconst (v := 0) hx hb dX9_copy_53 (by decide) ?_
          refine lv_istore (lv' := [(4, .int 0), (3, .int v10), (0, .ref (xa w 37)), (1, .int x1), (2, .int x2)]) hx hb dX9_copy_54 hl (by decide) rfl (fun ls hl => ?_)
          refine lv_iload_n hx hb dX9_copy_56 rfl (lv_at hl 3 rfl) ?_
          refine lv_istore (lv' := [(5, .int x1), (4, .int 0), (3, .int v10), (0, .ref (xa w 37)), (1, .int x1), (2, .int x2)]) hx hb dX9_copy_57 hl (by decide) rfl (fun ls hl => ?_)
          exact kX9_copy_59 X V  4096 0 x1 M0 _ _ _ hm hP hS (lv_sub hl [3, 1, 0] rfl)
        · have hm := xiff c11 hm
          refine lv_iload_n hx hb dX9_copy_30 rfl (lv_at hl 3 rfl) ?_
          refine lv_if_ne (tgt := 38) hx hb dX9_copy_31 (by decide) (fun c12 => ?_) (fun c12 => ?_)
          · have hm := xiff c12 hm
            refine lv_iload_n hx hb dX9_copy_38 rfl (lv_at hl 0 rfl) ?_
            refine lv_if_ge (tgt := 46) hx hb dX9_copy_39 (by decide) (fun c13 => ?_) (fun c13 => ?_)
            · have hm := xift c13 hm
              refine lv_aload_n hx hb dX9_copy_46 rfl (lv_at hl 1 rfl) ?_
              refine lv_iload_n hx hb dX9_copy_47 rfl (lv_at hl 2 rfl) ?_
              refine lv_iload_n hx hb dX9_copy_48 rfl (lv_at hl 0 rfl) ?_
              obtain ⟨v14, hg, hm⟩ := xbnd hm
              refine xcallV xm_X9_70 xt_X9_common0 X hP hS (qX9_common0 l w x1 v10 M0 v14 hg) xy37 rfl ⟨Nat.le_of_ble_eq_true rfl, Nat.le_of_ble_eq_true rfl⟩ ⟨rfl, rfl⟩ hl.1 rfl (rest := []) rfl (Nat.le_of_ble_eq_true rfl) dX9_copy_49 ⟨Nat.zero_le _, Nat.zero_le _⟩ (fun H locs hP hS => ?_)
              refine W.eq (g2 := F0 m 52 ls [.int v14]) rfl ?_
              obtain rfl := Option.some.inj hm
              exact xiret X hP hS dX9_copy_52
            · have hm := xiff c13 hm
              refine lv_iconst (v := 0) hx hb dX9_copy_42 (by decide) ?_
              refine lv_goto (tgt := 52) hx hb dX9_copy_43 (by decide) ?_
              obtain rfl := Option.some.inj hm
              exact xiret X hP hS dX9_copy_52
          · have hm := xift c12 hm
            refine lv_iload_n hx hb dX9_copy_34 rfl (lv_at hl 0 rfl) ?_
            refine lv_goto (tgt := 52) hx hb dX9_copy_35 (by decide) ?_
            obtain rfl := Option.some.inj hm
            exact xiret X hP hS dX9_copy_52
      · have hm := xiff c9 hm
        refine lv_iconst (v := (-1)) hx hb dX9_copy_17 (by decide) ?_
        obtain rfl := Option.some.inj hm
        exact xiret X hP hS dX9_copy_18
def fX2_append (x1 : Int32) (M : xM) : Option (xM) := if x1 = (-1) then (some M) else (if (M 32 3) < 40 then (if xin (M 32 3) 40 then xlt (xs1 M 33 (M 32 3).toNatClampNeg (x1 + 8)) fun M4 => xlt (xs1 M4 32 3 ((M4 32 3) + 1)) fun M5 => some M5 else none) else (some M))
theorem fX2_append_s (x1 : Int32) (M : xM) : fX2_append x1 M = (if x1 = (-1) then (some M) else (if (M 32 3) < 40 then (if xin (M 32 3) 40 then xlt (xs1 M 33 (M 32 3).toNatClampNeg (x1 + 8)) fun M4 => xlt (xs1 M4 32 3 ((M4 32 3) + 1)) fun M5 => some M5 else none) else (some M))) := rfl
set_option maxHeartbeats 4000000 in
set_option maxRecDepth 100000 in
theorem qX2_append (l : Launch) (w : xT) (x1 : Int32) (M : xM) (V : xM) (hm : fX2_append x1 M = some V) : xC l yX2_append (Cond.code yX2_append cX2_append 2 none) { frames := 0, cells := 0, slots := 0, locals := 0 } w [.ref (xa w 32), .int x1] M none V := by
  refine xC.of (by decide) (Nat.le_of_ble_eq_true rfl) ?_
  intro p e s m args below meth c ls X hP hS hl
  have hl : lv_has ls 2 [(0, .ref (xa w 32)), (1, .int x1)] := hl
  have X : xX p s m args meth c cX2_append 2 none RX2 w := X
  have hx := X.1
  have hb := X.2.1
  have hown := X.2.2.2.2.2.1
  have hts := X.2.2.2.2.2.2.1
  rw [fX2_append_s] at hm
  refine lv_iload_n hx hb dX2_append_0 rfl (lv_at hl 1 rfl) ?_
  refine lv_iconst (v := (-1)) hx hb dX2_append_1 (by decide) ?_
  refine lv_icmp_eq (tgt := 14) hx hb dX2_append_2 (by decide) (fun c1 => ?_) (fun c1 => ?_)
  · have hm := xift c1 hm
    obtain rfl := Option.some.inj hm
    exact xvret X hP hS dX2_append_14
  · have hm := xiff c1 hm
    refine lv_aload_n hx hb dX2_append_5 rfl (lv_at hl 0 rfl) ?_
    refine xgeti xcX2 X hP 32 3 xy32 (by decide) xf_X2_23 rfl dX2_append_6 ?_
    refine lv_bipush (v := 40) hx hb dX2_append_9 (by decide) ?_
    refine lv_icmp_lt (tgt := 15) hx hb dX2_append_11 (by decide) (fun c2 => ?_) (fun c2 => ?_)
    · have hm := xift c2 hm
      refine lv_aload_n hx hb dX2_append_15 rfl (lv_at hl 0 rfl) ?_
      refine xget xcX2 X hP 32 0 xy32 (by decide) xf_X2_9 rfl dX2_append_16 ?_
      refine lv_aload_n hx hb dX2_append_19 rfl (lv_at hl 0 rfl) ?_
      refine xgeti xcX2 X hP 32 3 xy32 (by decide) xf_X2_23 rfl dX2_append_20 ?_
      refine lv_iload_n hx hb dX2_append_23 rfl (lv_at hl 1 rfl) ?_
      refine lv_bipush (v := 8) hx hb dX2_append_24 (by decide) ?_
      refine lv_iadd hx hb dX2_append_26 ?_
      obtain ⟨hi3, hm⟩ := xifn hm
      refine xiast X hP hS 33 xy33 hi3 dX2_append_27 (fun M4 H locs eM4 hP hS => ?_)
      have hm := xltE hm eM4
      refine lv_aload_n hx hb dX2_append_28 rfl (lv_at hl 0 rfl) ?_
      refine lv_dup hx hb dX2_append_29 rfl ?_
      refine xgeti xcX2 X hP 32 3 xy32 (by decide) xf_X2_23 rfl dX2_append_30 ?_
      refine lv_iconst (v := 1) hx hb dX2_append_33 (by decide) ?_
      refine lv_iadd hx hb dX2_append_34 ?_
      refine xputi xcX2 X hP hS 32 3 xy32 (by decide) xf_X2_23 rfl (tyX2_ok 3 (by decide)) rfl dX2_append_35 (fun M5 H locs eM5 hP hS => ?_)
      have hm := xltE hm eM5
      obtain rfl := Option.some.inj hm
      exact xvret X hP hS dX2_append_38
    · have hm := xiff c2 hm
      obtain rfl := Option.some.inj hm
      exact xvret X hP hS dX2_append_14
def fX8_pattern (x1 : Int32) (x2 : Int32) (x3 : Int32) (x4 : Int32) (M : xM) : Option (Int32 × xM) := (fX8_countSigns x1 x2 x3 x4 M).bind fun v1 => if v1 = (-1) then (some ((-1), M)) else (if ((M 32 3) + v1) ≤ 40 then ((fX2_append x1 M).bind fun v4 => (fX2_append x2 v4).bind fun v5 => (fX2_append x3 v5).bind fun v6 => (fX2_append x4 v6).bind fun v7 => some (v7 32 3, v7)) else (some ((-1), M)))
theorem fX8_pattern_s (x1 : Int32) (x2 : Int32) (x3 : Int32) (x4 : Int32) (M : xM) : fX8_pattern x1 x2 x3 x4 M = ((fX8_countSigns x1 x2 x3 x4 M).bind fun v1 => if v1 = (-1) then (some ((-1), M)) else (if ((M 32 3) + v1) ≤ 40 then ((fX2_append x1 M).bind fun v4 => (fX2_append x2 v4).bind fun v5 => (fX2_append x3 v5).bind fun v6 => (fX2_append x4 v6).bind fun v7 => some (v7 32 3, v7)) else (some ((-1), M)))) := rfl
set_option maxHeartbeats 4000000 in
set_option maxRecDepth 100000 in
theorem qX8_pattern (l : Launch) (w : xT) (x1 : Int32) (x2 : Int32) (x3 : Int32) (x4 : Int32) (M : xM) (V : Int32 × xM) (hm : fX8_pattern x1 x2 x3 x4 M = some V) : xC l yX8_pattern (Cond.code yX8_pattern cX8_pattern 6 (some .int)) { frames := 2, cells := 0, slots := 0, locals := 43 } w [.ref (xa w 0), .int x1, .int x2, .int x3, .int x4] M (some (.int V.1)) V.2 := by
  refine xC.of (by decide) (Nat.le_of_ble_eq_true rfl) ?_
  intro p e s m args below meth c ls X hP hS hl
  have hl : lv_has ls 6 [(0, .ref (xa w 0)), (1, .int x1), (2, .int x2), (3, .int x3), (4, .int x4)] := hl
  have X : xX p s m args meth c cX8_pattern 6 (some .int) RX8 w := X
  have hx := X.1
  have hb := X.2.1
  have hown := X.2.2.2.2.2.1
  have hts := X.2.2.2.2.2.2.1
  rw [fX8_pattern_s] at hm
  refine lv_iload_n hx hb dX8_pattern_0 rfl (lv_at hl 1 rfl) ?_
  refine lv_iload_n hx hb dX8_pattern_1 rfl (lv_at hl 2 rfl) ?_
  refine lv_iload_n hx hb dX8_pattern_2 rfl (lv_at hl 3 rfl) ?_
  refine lv_iload hx hb dX8_pattern_3 (lv_at hl 4 rfl) ?_
  obtain ⟨v1, hg, hm⟩ := xbnd hm
  refine xcallS xm_X8_62 xt_X8_countSigns X hP hS (qX8_countSigns l w x1 x2 x3 x4 M v1 hg) ⟨Nat.le_of_ble_eq_true rfl, Nat.le_of_ble_eq_true rfl⟩ ⟨rfl, rfl⟩ hl.1 rfl (rest := []) rfl (Nat.le_of_ble_eq_true rfl) dX8_pattern_5 ⟨Nat.zero_le _, Nat.zero_le _⟩ (fun H locs hP hS => ?_)
  refine W.eq (g2 := F0 m 8 ls [.int v1]) rfl ?_
  refine lv_istore (lv' := [(5, .int v1), (0, .ref (xa w 0)), (1, .int x1), (2, .int x2), (3, .int x3), (4, .int x4)]) hx hb dX8_pattern_8 hl (by decide) rfl (fun ls hl => ?_)
  refine lv_iload hx hb dX8_pattern_10 (lv_at hl 0 rfl) ?_
  refine lv_iconst (v := (-1)) hx hb dX8_pattern_12 (by decide) ?_
  refine lv_icmp_eq (tgt := 31) hx hb dX8_pattern_13 (by decide) (fun c2 => ?_) (fun c2 => ?_)
  · have hm := xift c2 hm
    refine lv_iconst (v := (-1)) hx hb dX8_pattern_31 (by decide) ?_
    obtain rfl := Option.some.inj hm
    exact xiret X hP hS dX8_pattern_32
  · have hm := xiff c2 hm
    refine lv_aload_n hx hb dX8_pattern_16 rfl (lv_at hl 1 rfl) ?_
    refine xget xcX8 X hP 0 4 xy0 (by decide) xf_X8_44 rfl dX8_pattern_17 ?_
    refine xgeti xcX2 X hP 32 3 xy32 (by decide) xf_X8_135 rfl dX8_pattern_20 ?_
    refine lv_iload hx hb dX8_pattern_23 (lv_at hl 0 rfl) ?_
    refine lv_iadd hx hb dX8_pattern_25 ?_
    refine lv_bipush (v := 40) hx hb dX8_pattern_26 (by decide) ?_
    refine lv_icmp_le (tgt := 33) hx hb dX8_pattern_28 (by decide) (fun c3 => ?_) (fun c3 => ?_)
    · have hm := xift c3 hm
      refine lv_aload_n hx hb dX8_pattern_33 rfl (lv_at hl 1 rfl) ?_
      refine xget xcX8 X hP 0 4 xy0 (by decide) xf_X8_44 rfl dX8_pattern_34 ?_
      refine lv_iload_n hx hb dX8_pattern_37 rfl (lv_at hl 2 rfl) ?_
      obtain ⟨v4, hg, hm⟩ := xbnd hm
      refine xcallV xm_X8_138 xt_X2_append X hP hS (qX2_append l w x1 M v4 hg) xy32 rfl ⟨Nat.le_of_ble_eq_true rfl, Nat.le_of_ble_eq_true rfl⟩ ⟨rfl, rfl⟩ hl.1 rfl (rest := []) rfl (Nat.le_of_ble_eq_true rfl) dX8_pattern_38 ⟨Nat.zero_le _, Nat.zero_le _⟩ (fun H locs hP hS => ?_)
      refine W.eq (g2 := F0 m 41 ls []) rfl ?_
      refine lv_aload_n hx hb dX8_pattern_41 rfl (lv_at hl 1 rfl) ?_
      refine xget xcX8 X hP 0 4 xy0 (by decide) xf_X8_44 rfl dX8_pattern_42 ?_
      refine lv_iload_n hx hb dX8_pattern_45 rfl (lv_at hl 3 rfl) ?_
      obtain ⟨v5, hg, hm⟩ := xbnd hm
      refine xcallV xm_X8_138 xt_X2_append X hP hS (qX2_append l w x2 v4 v5 hg) xy32 rfl ⟨Nat.le_of_ble_eq_true rfl, Nat.le_of_ble_eq_true rfl⟩ ⟨rfl, rfl⟩ hl.1 rfl (rest := []) rfl (Nat.le_of_ble_eq_true rfl) dX8_pattern_46 ⟨Nat.zero_le _, Nat.zero_le _⟩ (fun H locs hP hS => ?_)
      refine W.eq (g2 := F0 m 49 ls []) rfl ?_
      refine lv_aload_n hx hb dX8_pattern_49 rfl (lv_at hl 1 rfl) ?_
      refine xget xcX8 X hP 0 4 xy0 (by decide) xf_X8_44 rfl dX8_pattern_50 ?_
      refine lv_iload_n hx hb dX8_pattern_53 rfl (lv_at hl 4 rfl) ?_
      obtain ⟨v6, hg, hm⟩ := xbnd hm
      refine xcallV xm_X8_138 xt_X2_append X hP hS (qX2_append l w x3 v5 v6 hg) xy32 rfl ⟨Nat.le_of_ble_eq_true rfl, Nat.le_of_ble_eq_true rfl⟩ ⟨rfl, rfl⟩ hl.1 rfl (rest := []) rfl (Nat.le_of_ble_eq_true rfl) dX8_pattern_54 ⟨Nat.zero_le _, Nat.zero_le _⟩ (fun H locs hP hS => ?_)
      refine W.eq (g2 := F0 m 57 ls []) rfl ?_
      refine lv_aload_n hx hb dX8_pattern_57 rfl (lv_at hl 1 rfl) ?_
      refine xget xcX8 X hP 0 4 xy0 (by decide) xf_X8_44 rfl dX8_pattern_58 ?_
      refine lv_iload hx hb dX8_pattern_61 (lv_at hl 5 rfl) ?_
      obtain ⟨v7, hg, hm⟩ := xbnd hm
      refine xcallV xm_X8_138 xt_X2_append X hP hS (qX2_append l w x4 v6 v7 hg) xy32 rfl ⟨Nat.le_of_ble_eq_true rfl, Nat.le_of_ble_eq_true rfl⟩ ⟨rfl, rfl⟩ hl.1 rfl (rest := []) rfl (Nat.le_of_ble_eq_true rfl) dX8_pattern_63 ⟨Nat.zero_le _, Nat.zero_le _⟩ (fun H locs hP hS => ?_)
      refine W.eq (g2 := F0 m 66 ls []) rfl ?_
      refine lv_aload_n hx hb dX8_pattern_66 rfl (lv_at hl 1 rfl) ?_
      refine xget xcX8 X hP 0 4 xy0 (by decide) xf_X8_44 rfl dX8_pattern_67 ?_
      refine xgeti xcX2 X hP 32 3 xy32 (by decide) xf_X8_135 rfl dX8_pattern_70 ?_
      obtain rfl := Option.some.inj hm
      exact xiret X hP hS dX8_pattern_73
    · have hm := xiff c3 hm
      refine lv_iconst (v := (-1)) hx hb dX8_pattern_31 (by decide) ?_
      obtain rfl := Option.some.inj hm
      exact xiret X hP hS dX8_pattern_32
def fX9_pattern_123   (M : xM) : Option (Int32 × xM) := some (M 37 12, M)
theorem fX9_pattern_123_s   (M : xM) : fX9_pattern_123  M = (some (M 37 12, M)) := rfl
set_option maxHeartbeats 4000000 in
set_option maxRecDepth 100000 in
theorem kX9_pattern_123 {p : Program} {l : Launch} {e : Env} {s : State} {m : MethodId} {args : Array Value} {below : List Frame} {meth : Method} {c : Code} {w : xT} (X : xX p s m args meth c cX9_pattern 7 (some .int) RX9 w) (V : Int32 × xM)  : ∀  (M : xM) (H : Heap) (locs : List Loc) (ls : Array Slot), fX9_pattern_123  M = some V → xP w M H → xS w s H locs → lv_has ls 7 [(0, .ref (xa w 37))] → W p l e { frames := 1, cells := 0, slots := 0, locals := 23 } s m args below meth c H locs 0 0 (xQ w (some (.int V.1)) V.2 below args s) (F0 m 123 ls []) := by
  have hx := X.1
  have hb := X.2.1
  have hown := X.2.2.2.2.2.1
  have hts := X.2.2.2.2.2.2.1
  intro M H locs ls hm hP hS hl
  rw [fX9_pattern_123_s] at hm
  refine lv_aload_n hx hb dX9_pattern_123 rfl (lv_at hl 0 rfl) ?_
  refine xgeti xcX9 X hP 37 12 xy37 (by decide) xf_X9_88 rfl dX9_pattern_124 ?_
  obtain rfl := Option.some.inj hm
  exact xiret X hP hS dX9_pattern_127
def fX9_pattern_117 (k52 : Int32 → Int32 → Int32 → Int32 → Int32 → xM → Option (Int32 × xM)) (x1 : Int32) (x2 : Int32) (x3 : Int32) (x4 : Int32) (x5 : Int32) (M : xM) : Option (Int32 × xM) := k52 x1 x2 x3 x4 (x5 + 1) M
theorem fX9_pattern_117_s (k52 : Int32 → Int32 → Int32 → Int32 → Int32 → xM → Option (Int32 × xM)) (x1 : Int32) (x2 : Int32) (x3 : Int32) (x4 : Int32) (x5 : Int32) (M : xM) : fX9_pattern_117 k52 x1 x2 x3 x4 x5 M = (k52 x1 x2 x3 x4 (x5 + 1) M) := rfl
set_option maxHeartbeats 4000000 in
set_option maxRecDepth 100000 in
theorem kX9_pattern_117 {p : Program} {l : Launch} {e : Env} {s : State} {m : MethodId} {args : Array Value} {below : List Frame} {meth : Method} {c : Code} {w : xT} (X : xX p s m args meth c cX9_pattern 7 (some .int) RX9 w) (V : Int32 × xM) (k52 : Int32 → Int32 → Int32 → Int32 → Int32 → xM → Option (Int32 × xM)) (hk52 : ∀ (x1 : Int32) (x2 : Int32) (x3 : Int32) (x4 : Int32) (x5 : Int32) (M : xM) (H : Heap) (locs : List Loc) (ls : Array Slot), k52 x1 x2 x3 x4 x5 M = some V → xP w M H → xS w s H locs → lv_has ls 7 [(0, .ref (xa w 37)), (1, .int x1), (2, .int x2), (3, .int x3), (4, .int x4), (5, .int x5)] → W p l e { frames := 1, cells := 0, slots := 0, locals := 23 } s m args below meth c H locs 0 0 (xQ w (some (.int V.1)) V.2 below args s) (F0 m 52 ls [])) : ∀ (x1 : Int32) (x2 : Int32) (x3 : Int32) (x4 : Int32) (x5 : Int32) (M : xM) (H : Heap) (locs : List Loc) (ls : Array Slot), fX9_pattern_117 k52 x1 x2 x3 x4 x5 M = some V → xP w M H → xS w s H locs → lv_has ls 7 [(0, .ref (xa w 37)), (1, .int x1), (2, .int x2), (3, .int x3), (4, .int x4), (5, .int x5)] → W p l e { frames := 1, cells := 0, slots := 0, locals := 23 } s m args below meth c H locs 0 0 (xQ w (some (.int V.1)) V.2 below args s) (F0 m 117 ls []) := by
  have hx := X.1
  have hb := X.2.1
  have hown := X.2.2.2.2.2.1
  have hts := X.2.2.2.2.2.2.1
  intro x1 x2 x3 x4 x5 M H locs ls hm hP hS hl
  rw [fX9_pattern_117_s] at hm
  refine lv_iinc (v := x5 + 1) (lv' := [(5, .int (x5 + 1)), (0, .ref (xa w 37)), (1, .int x1), (2, .int x2), (3, .int x3), (4, .int x4)]) hx hb dX9_pattern_117 hl (k := 5) rfl rfl (by decide) rfl (fun ls hl => ?_)
  refine lv_goto (tgt := 52) hx hb dX9_pattern_120 (by decide) ?_
  exact hk52 x1 x2 x3 x4 (x5 + 1) M _ _ _ hm hP hS (lv_sub hl [1, 2, 3, 4, 5, 0] rfl)
def fX9_pattern_89 (k52 : Int32 → Int32 → Int32 → Int32 → Int32 → xM → Option (Int32 × xM)) (x1 : Int32) (x2 : Int32) (x3 : Int32) (x4 : Int32) (x5 : Int32) (s0 : Int32) (M : xM) : Option (Int32 × xM) := if s0 < 0 then (fX9_pattern_117 k52 x1 x2 x3 x4 x5 M) else (if xin (M 37 12) 40 then xlt (xs1 M 47 (M 37 12).toNatClampNeg s0) fun M3 => xlt (xs1 M3 37 12 ((M3 37 12) + 1)) fun M4 => fX9_pattern_117 k52 x1 x2 x3 x4 x5 M4 else none)
theorem fX9_pattern_89_s (k52 : Int32 → Int32 → Int32 → Int32 → Int32 → xM → Option (Int32 × xM)) (x1 : Int32) (x2 : Int32) (x3 : Int32) (x4 : Int32) (x5 : Int32) (s0 : Int32) (M : xM) : fX9_pattern_89 k52 x1 x2 x3 x4 x5 s0 M = (if s0 < 0 then (fX9_pattern_117 k52 x1 x2 x3 x4 x5 M) else (if xin (M 37 12) 40 then xlt (xs1 M 47 (M 37 12).toNatClampNeg s0) fun M3 => xlt (xs1 M3 37 12 ((M3 37 12) + 1)) fun M4 => fX9_pattern_117 k52 x1 x2 x3 x4 x5 M4 else none)) := rfl
set_option maxHeartbeats 4000000 in
set_option maxRecDepth 100000 in
theorem kX9_pattern_89 {p : Program} {l : Launch} {e : Env} {s : State} {m : MethodId} {args : Array Value} {below : List Frame} {meth : Method} {c : Code} {w : xT} (X : xX p s m args meth c cX9_pattern 7 (some .int) RX9 w) (V : Int32 × xM) (k52 : Int32 → Int32 → Int32 → Int32 → Int32 → xM → Option (Int32 × xM)) (hk52 : ∀ (x1 : Int32) (x2 : Int32) (x3 : Int32) (x4 : Int32) (x5 : Int32) (M : xM) (H : Heap) (locs : List Loc) (ls : Array Slot), k52 x1 x2 x3 x4 x5 M = some V → xP w M H → xS w s H locs → lv_has ls 7 [(0, .ref (xa w 37)), (1, .int x1), (2, .int x2), (3, .int x3), (4, .int x4), (5, .int x5)] → W p l e { frames := 1, cells := 0, slots := 0, locals := 23 } s m args below meth c H locs 0 0 (xQ w (some (.int V.1)) V.2 below args s) (F0 m 52 ls [])) : ∀ (x1 : Int32) (x2 : Int32) (x3 : Int32) (x4 : Int32) (x5 : Int32) (s0 : Int32) (M : xM) (H : Heap) (locs : List Loc) (ls : Array Slot), fX9_pattern_89 k52 x1 x2 x3 x4 x5 s0 M = some V → xP w M H → xS w s H locs → lv_has ls 7 [(0, .ref (xa w 37)), (1, .int x1), (2, .int x2), (3, .int x3), (4, .int x4), (5, .int x5)] → W p l e { frames := 1, cells := 0, slots := 0, locals := 23 } s m args below meth c H locs 0 0 (xQ w (some (.int V.1)) V.2 below args s) (F0 m 89 ls [.int s0]) := by
  have hx := X.1
  have hb := X.2.1
  have hown := X.2.2.2.2.2.1
  have hts := X.2.2.2.2.2.2.1
  intro x1 x2 x3 x4 x5 s0 M H locs ls hm hP hS hl
  rw [fX9_pattern_89_s] at hm
  refine lv_istore (lv' := [(6, .int s0), (0, .ref (xa w 37)), (1, .int x1), (2, .int x2), (3, .int x3), (4, .int x4), (5, .int x5)]) hx hb dX9_pattern_89 hl (by decide) rfl (fun ls hl => ?_)
  refine lv_iload hx hb dX9_pattern_91 (lv_at hl 0 rfl) ?_
  refine lv_if_lt (tgt := 117) hx hb dX9_pattern_93 (by decide) (fun c1 => ?_) (fun c1 => ?_)
  · have hm := xift c1 hm
    exact kX9_pattern_117 X V k52 hk52 x1 x2 x3 x4 x5 M _ _ _ hm hP hS (lv_sub hl [1, 2, 3, 4, 5, 6] rfl)
  · have hm := xiff c1 hm
    refine lv_aload_n hx hb dX9_pattern_96 rfl (lv_at hl 1 rfl) ?_
    refine xget xcX9 X hP 37 11 xy37 (by decide) xf_X9_38 rfl dX9_pattern_97 ?_
    refine lv_aload_n hx hb dX9_pattern_100 rfl (lv_at hl 1 rfl) ?_
    refine xgeti xcX9 X hP 37 12 xy37 (by decide) xf_X9_88 rfl dX9_pattern_101 ?_
    refine lv_iload hx hb dX9_pattern_104 (lv_at hl 0 rfl) ?_
    obtain ⟨hi2, hm⟩ := xifn hm
    refine xiast X hP hS 47 xy47 hi2 dX9_pattern_106 (fun M3 H locs eM3 hP hS => ?_)
    have hm := xltE hm eM3
    refine lv_aload_n hx hb dX9_pattern_107 rfl (lv_at hl 1 rfl) ?_
    refine lv_dup hx hb dX9_pattern_108 rfl ?_
    refine xgeti xcX9 X hP 37 12 xy37 (by decide) xf_X9_88 rfl dX9_pattern_109 ?_
    refine lv_iconst (v := 1) hx hb dX9_pattern_112 (by decide) ?_
    refine lv_iadd hx hb dX9_pattern_113 ?_
    refine xputi xcX9 X hP hS 37 12 xy37 (by decide) xf_X9_88 rfl (tyX9_ok 12 (by decide)) rfl dX9_pattern_114 (fun M4 H locs eM4 hP hS => ?_)
    have hm := xltE hm eM4
    exact kX9_pattern_117 X V k52 hk52 x1 x2 x3 x4 x5 M4 _ _ _ hm hP hS (lv_sub hl [1, 2, 3, 4, 5, 6] rfl)
def fX9_pattern_52  : Nat → Int32 → Int32 → Int32 → Int32 → Int32 → xM → Option (Int32 × xM)
  | 0 => fun _ _ _ _ _ _ => none
  | n + 1 => fun x1 x2 x3 x4 x5 M => if 4 ≤ x5 then (fX9_pattern_123  M) else (if x5 = 0 then (fX9_pattern_89 (fX9_pattern_52 n) x1 x2 x3 x4 x5 x1 M) else (if x5 = 1 then (fX9_pattern_89 (fX9_pattern_52 n) x1 x2 x3 x4 x5 x2 M) else (if x5 = 2 then (fX9_pattern_89 (fX9_pattern_52 n) x1 x2 x3 x4 x5 x3 M) else (fX9_pattern_89 (fX9_pattern_52 n) x1 x2 x3 x4 x5 x4 M))))
theorem fX9_pattern_52_s  (n : Nat) (x1 : Int32) (x2 : Int32) (x3 : Int32) (x4 : Int32) (x5 : Int32) (M : xM) : fX9_pattern_52  (n + 1) x1 x2 x3 x4 x5 M = (if 4 ≤ x5 then (fX9_pattern_123  M) else (if x5 = 0 then (fX9_pattern_89 (fX9_pattern_52 n) x1 x2 x3 x4 x5 x1 M) else (if x5 = 1 then (fX9_pattern_89 (fX9_pattern_52 n) x1 x2 x3 x4 x5 x2 M) else (if x5 = 2 then (fX9_pattern_89 (fX9_pattern_52 n) x1 x2 x3 x4 x5 x3 M) else (fX9_pattern_89 (fX9_pattern_52 n) x1 x2 x3 x4 x5 x4 M))))) := rfl
set_option maxHeartbeats 4000000 in
set_option maxRecDepth 100000 in
theorem kX9_pattern_52 {p : Program} {l : Launch} {e : Env} {s : State} {m : MethodId} {args : Array Value} {below : List Frame} {meth : Method} {c : Code} {w : xT} (X : xX p s m args meth c cX9_pattern 7 (some .int) RX9 w) (V : Int32 × xM)  : ∀ (n : Nat) (x1 : Int32) (x2 : Int32) (x3 : Int32) (x4 : Int32) (x5 : Int32) (M : xM) (H : Heap) (locs : List Loc) (ls : Array Slot), fX9_pattern_52  n x1 x2 x3 x4 x5 M = some V → xP w M H → xS w s H locs → lv_has ls 7 [(0, .ref (xa w 37)), (1, .int x1), (2, .int x2), (3, .int x3), (4, .int x4), (5, .int x5)] → W p l e { frames := 1, cells := 0, slots := 0, locals := 23 } s m args below meth c H locs 0 0 (xQ w (some (.int V.1)) V.2 below args s) (F0 m 52 ls []) := by
  have hx := X.1
  have hb := X.2.1
  have hown := X.2.2.2.2.2.1
  have hts := X.2.2.2.2.2.2.1
  intro n
  induction n with
  | zero => intro x1 x2 x3 x4 x5 M H locs ls hm hP hS hl; exact xnon hm
  | succ n ih =>
    intro x1 x2 x3 x4 x5 M H locs ls hm hP hS hl
    rw [fX9_pattern_52_s] at hm
    refine lv_iload hx hb dX9_pattern_52 (lv_at hl 5 rfl) ?_
    refine lv_iconst (v := 4) hx hb dX9_pattern_54 (by decide) ?_
    refine lv_icmp_ge (tgt := 123) hx hb dX9_pattern_55 (by decide) (fun c5 => ?_) (fun c5 => ?_)
    · have hm := xift c5 hm
      exact kX9_pattern_123 X V  M _ _ _ hm hP hS (lv_sub hl [0] rfl)
    · have hm := xiff c5 hm
      refine lv_iload hx hb dX9_pattern_58 (lv_at hl 5 rfl) ?_
      refine lv_if_ne (tgt := 67) hx hb dX9_pattern_60 (by decide) (fun c6 => ?_) (fun c6 => ?_)
      · have hm := xiff c6 hm
        refine lv_iload hx hb dX9_pattern_67 (lv_at hl 5 rfl) ?_
        refine lv_iconst (v := 1) hx hb dX9_pattern_69 (by decide) ?_
        refine lv_icmp_ne (tgt := 77) hx hb dX9_pattern_70 (by decide) (fun c7 => ?_) (fun c7 => ?_)
        · have hm := xiff c7 hm
          refine lv_iload hx hb dX9_pattern_77 (lv_at hl 5 rfl) ?_
          refine lv_iconst (v := 2) hx hb dX9_pattern_79 (by decide) ?_
          refine lv_icmp_ne (tgt := 87) hx hb dX9_pattern_80 (by decide) (fun c8 => ?_) (fun c8 => ?_)
          · have hm := xiff c8 hm
            refine lv_iload hx hb dX9_pattern_87 (lv_at hl 4 rfl) ?_
            exact kX9_pattern_89 X V (fX9_pattern_52 n) ih x1 x2 x3 x4 x5 x4 M _ _ _ hm hP hS (lv_sub hl [0, 1, 2, 3, 4, 5] rfl)
          · have hm := xift c8 hm
            refine lv_iload_n hx hb dX9_pattern_83 rfl (lv_at hl 3 rfl) ?_
            refine lv_goto (tgt := 89) hx hb dX9_pattern_84 (by decide) ?_
            exact kX9_pattern_89 X V (fX9_pattern_52 n) ih x1 x2 x3 x4 x5 x3 M _ _ _ hm hP hS (lv_sub hl [0, 1, 2, 3, 4, 5] rfl)
        · have hm := xift c7 hm
          refine lv_iload_n hx hb dX9_pattern_73 rfl (lv_at hl 2 rfl) ?_
          refine lv_goto (tgt := 89) hx hb dX9_pattern_74 (by decide) ?_
          exact kX9_pattern_89 X V (fX9_pattern_52 n) ih x1 x2 x3 x4 x5 x2 M _ _ _ hm hP hS (lv_sub hl [0, 1, 2, 3, 4, 5] rfl)
      · have hm := xift c6 hm
        refine lv_iload_n hx hb dX9_pattern_63 rfl (lv_at hl 1 rfl) ?_
        refine lv_goto (tgt := 89) hx hb dX9_pattern_64 (by decide) ?_
        exact kX9_pattern_89 X V (fX9_pattern_52 n) ih x1 x2 x3 x4 x5 x1 M _ _ _ hm hP hS (lv_sub hl [0, 1, 2, 3, 4, 5] rfl)
def fX9_pattern (x1 : Int32) (x2 : Int32) (x3 : Int32) (x4 : Int32) (M : xM) : Option (Int32 × xM) := (fX9_isGiven x1 M).bind fun v9 => if v9 = 0 then (some ((-1), M)) else ((fX9_isGiven x2 M).bind fun v11 => if v11 = 0 then (some ((-1), M)) else ((fX9_isGiven x3 M).bind fun v13 => if v13 = 0 then (some ((-1), M)) else ((fX9_isGiven x4 M).bind fun v15 => if v15 = 0 then (some ((-1), M)) else ((fX9_given x1 x2 x3 x4 M).bind fun v17 => if ((M 37 12) + v17) ≤ 40 then (fX9_pattern_52 4096 x1 x2 x3 x4 0 M) else (some ((-1), M))))))
theorem fX9_pattern_s (x1 : Int32) (x2 : Int32) (x3 : Int32) (x4 : Int32) (M : xM) : fX9_pattern x1 x2 x3 x4 M = ((fX9_isGiven x1 M).bind fun v9 => if v9 = 0 then (some ((-1), M)) else ((fX9_isGiven x2 M).bind fun v11 => if v11 = 0 then (some ((-1), M)) else ((fX9_isGiven x3 M).bind fun v13 => if v13 = 0 then (some ((-1), M)) else ((fX9_isGiven x4 M).bind fun v15 => if v15 = 0 then (some ((-1), M)) else ((fX9_given x1 x2 x3 x4 M).bind fun v17 => if ((M 37 12) + v17) ≤ 40 then (fX9_pattern_52 4096 x1 x2 x3 x4 0 M) else (some ((-1), M))))))) := rfl
set_option maxHeartbeats 4000000 in
set_option maxRecDepth 100000 in
theorem qX9_pattern (l : Launch) (w : xT) (x1 : Int32) (x2 : Int32) (x3 : Int32) (x4 : Int32) (M : xM) (V : Int32 × xM) (hm : fX9_pattern x1 x2 x3 x4 M = some V) : xC l yX9_pattern (Cond.code yX9_pattern cX9_pattern 7 (some .int)) { frames := 1, cells := 0, slots := 0, locals := 23 } w [.ref (xa w 37), .int x1, .int x2, .int x3, .int x4] M (some (.int V.1)) V.2 := by
  refine xC.of (by decide) (Nat.le_of_ble_eq_true rfl) ?_
  intro p e s m args below meth c ls X hP hS hl
  have hl : lv_has ls 7 [(0, .ref (xa w 37)), (1, .int x1), (2, .int x2), (3, .int x3), (4, .int x4)] := hl
  have X : xX p s m args meth c cX9_pattern 7 (some .int) RX9 w := X
  have hx := X.1
  have hb := X.2.1
  have hown := X.2.2.2.2.2.1
  have hts := X.2.2.2.2.2.2.1
  rw [fX9_pattern_s] at hm
  refine lv_iload_n hx hb dX9_pattern_0 rfl (lv_at hl 1 rfl) ?_
  obtain ⟨v9, hg, hm⟩ := xbnd hm
  refine xcallS xm_X9_59 xt_X9_isGiven X hP hS (qX9_isGiven l w x1 M v9 hg) ⟨Nat.le_of_ble_eq_true rfl, Nat.le_of_ble_eq_true rfl⟩ ⟨rfl, rfl⟩ hl.1 rfl (rest := []) rfl (Nat.le_of_ble_eq_true rfl) dX9_pattern_1 ⟨Nat.zero_le _, Nat.zero_le _⟩ (fun H locs hP hS => ?_)
  refine W.eq (g2 := F0 m 4 ls [.int v9]) rfl ?_
  refine lv_if_eq (tgt := 47) hx hb dX9_pattern_4 (by decide) (fun c10 => ?_) (fun c10 => ?_)
  · have hm := xift c10 hm
    refine lv_iconst (v := (-1)) hx hb dX9_pattern_47 (by decide) ?_
    obtain rfl := Option.some.inj hm
    exact xiret X hP hS dX9_pattern_48
  · have hm := xiff c10 hm
    refine lv_iload_n hx hb dX9_pattern_7 rfl (lv_at hl 2 rfl) ?_
    obtain ⟨v11, hg, hm⟩ := xbnd hm
    refine xcallS xm_X9_59 xt_X9_isGiven X hP hS (qX9_isGiven l w x2 M v11 hg) ⟨Nat.le_of_ble_eq_true rfl, Nat.le_of_ble_eq_true rfl⟩ ⟨rfl, rfl⟩ hl.1 rfl (rest := []) rfl (Nat.le_of_ble_eq_true rfl) dX9_pattern_8 ⟨Nat.zero_le _, Nat.zero_le _⟩ (fun H locs hP hS => ?_)
    refine W.eq (g2 := F0 m 11 ls [.int v11]) rfl ?_
    refine lv_if_eq (tgt := 47) hx hb dX9_pattern_11 (by decide) (fun c12 => ?_) (fun c12 => ?_)
    · have hm := xift c12 hm
      refine lv_iconst (v := (-1)) hx hb dX9_pattern_47 (by decide) ?_
      obtain rfl := Option.some.inj hm
      exact xiret X hP hS dX9_pattern_48
    · have hm := xiff c12 hm
      refine lv_iload_n hx hb dX9_pattern_14 rfl (lv_at hl 3 rfl) ?_
      obtain ⟨v13, hg, hm⟩ := xbnd hm
      refine xcallS xm_X9_59 xt_X9_isGiven X hP hS (qX9_isGiven l w x3 M v13 hg) ⟨Nat.le_of_ble_eq_true rfl, Nat.le_of_ble_eq_true rfl⟩ ⟨rfl, rfl⟩ hl.1 rfl (rest := []) rfl (Nat.le_of_ble_eq_true rfl) dX9_pattern_15 ⟨Nat.zero_le _, Nat.zero_le _⟩ (fun H locs hP hS => ?_)
      refine W.eq (g2 := F0 m 18 ls [.int v13]) rfl ?_
      refine lv_if_eq (tgt := 47) hx hb dX9_pattern_18 (by decide) (fun c14 => ?_) (fun c14 => ?_)
      · have hm := xift c14 hm
        refine lv_iconst (v := (-1)) hx hb dX9_pattern_47 (by decide) ?_
        obtain rfl := Option.some.inj hm
        exact xiret X hP hS dX9_pattern_48
      · have hm := xiff c14 hm
        refine lv_iload hx hb dX9_pattern_21 (lv_at hl 4 rfl) ?_
        obtain ⟨v15, hg, hm⟩ := xbnd hm
        refine xcallS xm_X9_59 xt_X9_isGiven X hP hS (qX9_isGiven l w x4 M v15 hg) ⟨Nat.le_of_ble_eq_true rfl, Nat.le_of_ble_eq_true rfl⟩ ⟨rfl, rfl⟩ hl.1 rfl (rest := []) rfl (Nat.le_of_ble_eq_true rfl) dX9_pattern_23 ⟨Nat.zero_le _, Nat.zero_le _⟩ (fun H locs hP hS => ?_)
        refine W.eq (g2 := F0 m 26 ls [.int v15]) rfl ?_
        refine lv_if_eq (tgt := 47) hx hb dX9_pattern_26 (by decide) (fun c16 => ?_) (fun c16 => ?_)
        · have hm := xift c16 hm
          refine lv_iconst (v := (-1)) hx hb dX9_pattern_47 (by decide) ?_
          obtain rfl := Option.some.inj hm
          exact xiret X hP hS dX9_pattern_48
        · have hm := xiff c16 hm
          refine lv_aload_n hx hb dX9_pattern_29 rfl (lv_at hl 0 rfl) ?_
          refine xgeti xcX9 X hP 37 12 xy37 (by decide) xf_X9_88 rfl dX9_pattern_30 ?_
          refine lv_iload_n hx hb dX9_pattern_33 rfl (lv_at hl 1 rfl) ?_
          refine lv_iload_n hx hb dX9_pattern_34 rfl (lv_at hl 2 rfl) ?_
          refine lv_iload_n hx hb dX9_pattern_35 rfl (lv_at hl 3 rfl) ?_
          refine lv_iload hx hb dX9_pattern_36 (lv_at hl 4 rfl) ?_
          obtain ⟨v17, hg, hm⟩ := xbnd hm
          refine xcallS xm_X9_62 xt_X9_given X hP hS (qX9_given l w x1 x2 x3 x4 M v17 hg) ⟨Nat.le_of_ble_eq_true rfl, Nat.le_of_ble_eq_true rfl⟩ ⟨rfl, rfl⟩ hl.1 rfl (rest := [.int (M 37 12)]) rfl (Nat.le_of_ble_eq_true rfl) dX9_pattern_38 ⟨Nat.zero_le _, Nat.zero_le _⟩ (fun H locs hP hS => ?_)
          refine W.eq (g2 := F0 m 41 ls [.int v17, .int (M 37 12)]) rfl ?_
          refine lv_iadd hx hb dX9_pattern_41 ?_
          refine lv_bipush (v := 40) hx hb dX9_pattern_42 (by decide) ?_
          refine lv_icmp_le (tgt := 49) hx hb dX9_pattern_44 (by decide) (fun c18 => ?_) (fun c18 => ?_)
          · have hm := xift c18 hm
            refine lv_iconst (v := 0) hx hb dX9_pattern_49 (by decide) ?_
            refine lv_istore (lv' := [(5, .int 0), (0, .ref (xa w 37)), (1, .int x1), (2, .int x2), (3, .int x3), (4, .int x4)]) hx hb dX9_pattern_50 hl (by decide) rfl (fun ls hl => ?_)
            exact kX9_pattern_52 X V  4096 x1 x2 x3 x4 0 M _ _ _ hm hP hS (lv_sub hl [1, 2, 3, 4, 5, 0] rfl)
          · have hm := xiff c18 hm
            refine lv_iconst (v := (-1)) hx hb dX9_pattern_47 (by decide) ?_
            obtain rfl := Option.some.inj hm
            exact xiret X hP hS dX9_pattern_48
def fX8_wipe  (M : xM) : Option (Int32 × xM) := xlt (xs1 M 32 3 0) fun M1 => some (M 32 3, M1)
theorem fX8_wipe_s  (M : xM) : fX8_wipe M = (xlt (xs1 M 32 3 0) fun M1 => some (M 32 3, M1)) := rfl
set_option maxHeartbeats 4000000 in
set_option maxRecDepth 100000 in
theorem qX8_wipe (l : Launch) (w : xT)  (M : xM) (V : Int32 × xM) (hm : fX8_wipe M = some V) : xC l yX8_wipe (Cond.code yX8_wipe cX8_wipe 2 (some .int)) { frames := 0, cells := 0, slots := 0, locals := 0 } w [.ref (xa w 0)] M (some (.int V.1)) V.2 := by
  refine xC.of (by decide) (Nat.le_of_ble_eq_true rfl) ?_
  intro p e s m args below meth c ls X hP hS hl
  have hl : lv_has ls 2 [(0, .ref (xa w 0))] := hl
  have X : xX p s m args meth c cX8_wipe 2 (some .int) RX8 w := X
  have hx := X.1
  have hb := X.2.1
  have hown := X.2.2.2.2.2.1
  have hts := X.2.2.2.2.2.2.1
  rw [fX8_wipe_s] at hm
  refine lv_aload_n hx hb dX8_wipe_0 rfl (lv_at hl 0 rfl) ?_
  refine xget xcX8 X hP 0 4 xy0 (by decide) xf_X8_44 rfl dX8_wipe_1 ?_
  refine xgeti xcX2 X hP 32 3 xy32 (by decide) xf_X8_135 rfl dX8_wipe_4 ?_
  refine lv_istore_n (lv' := [(1, .int (M 32 3)), (0, .ref (xa w 0))]) hx hb dX8_wipe_7 rfl hl (by decide) rfl (fun ls hl => ?_)
  refine lv_aload_n hx hb dX8_wipe_8 rfl (lv_at hl 1 rfl) ?_
  refine xget xcX8 X hP 0 4 xy0 (by decide) xf_X8_44 rfl dX8_wipe_9 ?_
  refine lv_iconst (v := 0) hx hb dX8_wipe_12 (by decide) ?_
  refine xputi xcX2 X hP hS 32 3 xy32 (by decide) xf_X8_135 rfl (tyX2_ok 3 (by decide)) rfl dX8_wipe_13 (fun M1 H locs eM1 hP hS => ?_)
  have hm := xltE hm eM1
  refine lv_iload_n hx hb dX8_wipe_16 rfl (lv_at hl 0 rfl) ?_
  obtain rfl := Option.some.inj hm
  exact xiret X hP hS dX8_wipe_17
def fX9_wipe  (M : xM) : Option (Int32 × xM) := xlt (xs1 M 37 12 0) fun M1 => some (M 37 12, M1)
theorem fX9_wipe_s  (M : xM) : fX9_wipe M = (xlt (xs1 M 37 12 0) fun M1 => some (M 37 12, M1)) := rfl
set_option maxHeartbeats 4000000 in
set_option maxRecDepth 100000 in
theorem qX9_wipe (l : Launch) (w : xT)  (M : xM) (V : Int32 × xM) (hm : fX9_wipe M = some V) : xC l yX9_wipe (Cond.code yX9_wipe cX9_wipe 2 (some .int)) { frames := 0, cells := 0, slots := 0, locals := 0 } w [.ref (xa w 37)] M (some (.int V.1)) V.2 := by
  refine xC.of (by decide) (Nat.le_of_ble_eq_true rfl) ?_
  intro p e s m args below meth c ls X hP hS hl
  have hl : lv_has ls 2 [(0, .ref (xa w 37))] := hl
  have X : xX p s m args meth c cX9_wipe 2 (some .int) RX9 w := X
  have hx := X.1
  have hb := X.2.1
  have hown := X.2.2.2.2.2.1
  have hts := X.2.2.2.2.2.2.1
  rw [fX9_wipe_s] at hm
  refine lv_aload_n hx hb dX9_wipe_0 rfl (lv_at hl 0 rfl) ?_
  refine xgeti xcX9 X hP 37 12 xy37 (by decide) xf_X9_88 rfl dX9_wipe_1 ?_
  refine lv_istore_n (lv' := [(1, .int (M 37 12)), (0, .ref (xa w 37))]) hx hb dX9_wipe_4 rfl hl (by decide) rfl (fun ls hl => ?_)
  refine lv_aload_n hx hb dX9_wipe_5 rfl (lv_at hl 1 rfl) ?_
  refine lv_iconst (v := 0) hx hb dX9_wipe_6 (by decide) ?_
  refine xputi xcX9 X hP hS 37 12 xy37 (by decide) xf_X9_88 rfl (tyX9_ok 12 (by decide)) rfl dX9_wipe_7 (fun M1 H locs eM1 hP hS => ?_)
  have hm := xltE hm eM1
  refine lv_iload_n hx hb dX9_wipe_10 rfl (lv_at hl 0 rfl) ?_
  obtain rfl := Option.some.inj hm
  exact xiret X hP hS dX9_wipe_11
def fX2_alikeAt_2  : Nat → Int32 → Int32 → xM → Option (Int32)
  | 0 => fun _ _ _ => none
  | n + 1 => fun x1 x2 M0 => if (M0 32 3) ≤ x2 then (some x2) else (if (M0 4 4) ≤ (x1 + x2) then (some x2) else (if xin (x1 + x2) 408 then if xin x2 40 then if (M0 5 (x1 + x2).toNatClampNeg) = (M0 33 x2.toNatClampNeg) then (fX2_alikeAt_2 n x1 (x2 + 1) M0) else (some x2) else none else none))
theorem fX2_alikeAt_2_s  (n : Nat) (x1 : Int32) (x2 : Int32) (M0 : xM) : fX2_alikeAt_2  (n + 1) x1 x2 M0 = (if (M0 32 3) ≤ x2 then (some x2) else (if (M0 4 4) ≤ (x1 + x2) then (some x2) else (if xin (x1 + x2) 408 then if xin x2 40 then if (M0 5 (x1 + x2).toNatClampNeg) = (M0 33 x2.toNatClampNeg) then (fX2_alikeAt_2 n x1 (x2 + 1) M0) else (some x2) else none else none))) := rfl
set_option maxHeartbeats 4000000 in
set_option maxRecDepth 100000 in
theorem kX2_alikeAt_2 {p : Program} {l : Launch} {e : Env} {s : State} {m : MethodId} {args : Array Value} {below : List Frame} {meth : Method} {c : Code} {w : xT} (X : xX p s m args meth c cX2_alikeAt 3 (some .int) RX2 w) (V : Int32)  : ∀ (n : Nat) (x1 : Int32) (x2 : Int32) (M0 : xM) (H : Heap) (locs : List Loc) (ls : Array Slot), fX2_alikeAt_2  n x1 x2 M0 = some V → xP w M0 H → xS w s H locs → lv_has ls 3 [(0, .ref (xa w 32)), (1, .int x1), (2, .int x2)] → W p l e { frames := 0, cells := 0, slots := 0, locals := 0 } s m args below meth c H locs 0 0 (xQ w (some (.int V)) M0 below args s) (F0 m 2 ls []) := by
  have hx := X.1
  have hb := X.2.1
  have hown := X.2.2.2.2.2.1
  have hts := X.2.2.2.2.2.2.1
  intro n
  induction n with
  | zero => intro x1 x2 M0 H locs ls hm hP hS hl; exact xnon hm
  | succ n ih =>
    intro x1 x2 M0 H locs ls hm hP hS hl
    rw [fX2_alikeAt_2_s] at hm
    refine lv_iload_n hx hb dX2_alikeAt_2 rfl (lv_at hl 2 rfl) ?_
    refine lv_aload_n hx hb dX2_alikeAt_3 rfl (lv_at hl 0 rfl) ?_
    refine xgeti xcX2 X hP 32 3 xy32 (by decide) xf_X2_23 rfl dX2_alikeAt_4 ?_
    refine lv_icmp_ge (tgt := 49) hx hb dX2_alikeAt_7 (by decide) (fun c1 => ?_) (fun c1 => ?_)
    · have hm := xift c1 hm
      refine lv_iload_n hx hb dX2_alikeAt_49 rfl (lv_at hl 2 rfl) ?_
      obtain rfl := Option.some.inj hm
      exact xiret X hP hS dX2_alikeAt_50
    · have hm := xiff c1 hm
      refine lv_iload_n hx hb dX2_alikeAt_10 rfl (lv_at hl 1 rfl) ?_
      refine lv_iload_n hx hb dX2_alikeAt_11 rfl (lv_at hl 2 rfl) ?_
      refine lv_iadd hx hb dX2_alikeAt_12 ?_
      refine lv_aload_n hx hb dX2_alikeAt_13 rfl (lv_at hl 0 rfl) ?_
      refine xget xcX2 X hP 32 1 xy32 (by decide) xf_X2_15 rfl dX2_alikeAt_14 ?_
      refine xgeti xcX7 X hP 4 4 xy4 (by decide) xf_X2_27 rfl dX2_alikeAt_17 ?_
      refine lv_icmp_ge (tgt := 49) hx hb dX2_alikeAt_20 (by decide) (fun c2 => ?_) (fun c2 => ?_)
      · have hm := xift c2 hm
        refine lv_iload_n hx hb dX2_alikeAt_49 rfl (lv_at hl 2 rfl) ?_
        obtain rfl := Option.some.inj hm
        exact xiret X hP hS dX2_alikeAt_50
      · have hm := xiff c2 hm
        refine lv_aload_n hx hb dX2_alikeAt_23 rfl (lv_at hl 0 rfl) ?_
        refine xget xcX2 X hP 32 1 xy32 (by decide) xf_X2_15 rfl dX2_alikeAt_24 ?_
        refine xget xcX7 X hP 4 0 xy4 (by decide) xf_X2_44 rfl dX2_alikeAt_27 ?_
        refine lv_iload_n hx hb dX2_alikeAt_30 rfl (lv_at hl 1 rfl) ?_
        refine lv_iload_n hx hb dX2_alikeAt_31 rfl (lv_at hl 2 rfl) ?_
        refine lv_iadd hx hb dX2_alikeAt_32 ?_
        obtain ⟨hi3, hm⟩ := xifn hm
        refine xiald X hP 5 xy5 hi3 dX2_alikeAt_33 ?_
        refine lv_aload_n hx hb dX2_alikeAt_34 rfl (lv_at hl 0 rfl) ?_
        refine xget xcX2 X hP 32 0 xy32 (by decide) xf_X2_9 rfl dX2_alikeAt_35 ?_
        refine lv_iload_n hx hb dX2_alikeAt_38 rfl (lv_at hl 2 rfl) ?_
        obtain ⟨hi4, hm⟩ := xifn hm
        refine xiald X hP 33 xy33 hi4 dX2_alikeAt_39 ?_
        refine lv_icmp_ne (tgt := 49) hx hb dX2_alikeAt_40 (by decide) (fun c5 => ?_) (fun c5 => ?_)
        · have hm := xiff c5 hm
          refine lv_iload_n hx hb dX2_alikeAt_49 rfl (lv_at hl 2 rfl) ?_
          obtain rfl := Option.some.inj hm
          exact xiret X hP hS dX2_alikeAt_50
        · have hm := xift c5 hm
          refine lv_iinc (v := x2 + 1) (lv' := [(2, .int (x2 + 1)), (0, .ref (xa w 32)), (1, .int x1)]) hx hb dX2_alikeAt_43 hl (k := 2) rfl rfl (by decide) rfl (fun ls hl => ?_)
          refine lv_goto (tgt := 2) hx hb dX2_alikeAt_46 (by decide) ?_
          exact ih x1 (x2 + 1) M0 _ _ _ hm hP hS (lv_sub hl [1, 2, 0] rfl)
def fX2_alikeAt (x1 : Int32) (M0 : xM) : Option (Int32) := fX2_alikeAt_2 4096 x1 0 M0
theorem fX2_alikeAt_s (x1 : Int32) (M0 : xM) : fX2_alikeAt x1 M0 = (fX2_alikeAt_2 4096 x1 0 M0) := rfl
set_option maxHeartbeats 4000000 in
set_option maxRecDepth 100000 in
theorem qX2_alikeAt (l : Launch) (w : xT) (x1 : Int32) (M0 : xM) (V : Int32) (hm : fX2_alikeAt x1 M0 = some V) : xC l yX2_alikeAt (Cond.code yX2_alikeAt cX2_alikeAt 3 (some .int)) { frames := 0, cells := 0, slots := 0, locals := 0 } w [.ref (xa w 32), .int x1] M0 (some (.int V)) M0 := by
  refine xC.of (by decide) (Nat.le_of_ble_eq_true rfl) ?_
  intro p e s m args below meth c ls X hP hS hl
  have hl : lv_has ls 3 [(0, .ref (xa w 32)), (1, .int x1)] := hl
  have X : xX p s m args meth c cX2_alikeAt 3 (some .int) RX2 w := X
  have hx := X.1
  have hb := X.2.1
  have hown := X.2.2.2.2.2.1
  have hts := X.2.2.2.2.2.2.1
  rw [fX2_alikeAt_s] at hm
  refine lv_iconst (v := 0) hx hb dX2_alikeAt_0 (by decide) ?_
  refine lv_istore_n (lv' := [(2, .int 0), (0, .ref (xa w 32)), (1, .int x1)]) hx hb dX2_alikeAt_1 rfl hl (by decide) rfl (fun ls hl => ?_)
  exact kX2_alikeAt_2 X V  4096 x1 0 M0 _ _ _ hm hP hS (lv_sub hl [1, 2, 0] rfl)
def fX2_sideOf (x1 : Int32) (M0 : xM) : Option (Int32) := (fX2_alikeAt x1 M0).bind fun v1 => if v1 = (M0 32 3) then (some 0) else (if (M0 4 4) ≤ (x1 + v1) then (some (-1)) else (if xin (x1 + v1) 408 then if xin v1 40 then if (M0 33 v1.toNatClampNeg) ≤ (M0 5 (x1 + v1).toNatClampNeg) then (some 1) else (some (-1)) else none else none))
theorem fX2_sideOf_s (x1 : Int32) (M0 : xM) : fX2_sideOf x1 M0 = ((fX2_alikeAt x1 M0).bind fun v1 => if v1 = (M0 32 3) then (some 0) else (if (M0 4 4) ≤ (x1 + v1) then (some (-1)) else (if xin (x1 + v1) 408 then if xin v1 40 then if (M0 33 v1.toNatClampNeg) ≤ (M0 5 (x1 + v1).toNatClampNeg) then (some 1) else (some (-1)) else none else none))) := rfl
set_option maxHeartbeats 4000000 in
set_option maxRecDepth 100000 in
theorem qX2_sideOf (l : Launch) (w : xT) (x1 : Int32) (M0 : xM) (V : Int32) (hm : fX2_sideOf x1 M0 = some V) : xC l yX2_sideOf (Cond.code yX2_sideOf cX2_sideOf 3 (some .int)) { frames := 1, cells := 0, slots := 0, locals := 22 } w [.ref (xa w 32), .int x1] M0 (some (.int V)) M0 := by
  refine xC.of (by decide) (Nat.le_of_ble_eq_true rfl) ?_
  intro p e s m args below meth c ls X hP hS hl
  have hl : lv_has ls 3 [(0, .ref (xa w 32)), (1, .int x1)] := hl
  have X : xX p s m args meth c cX2_sideOf 3 (some .int) RX2 w := X
  have hx := X.1
  have hb := X.2.1
  have hown := X.2.2.2.2.2.1
  have hts := X.2.2.2.2.2.2.1
  rw [fX2_sideOf_s] at hm
  refine lv_aload_n hx hb dX2_sideOf_0 rfl (lv_at hl 0 rfl) ?_
  refine lv_iload_n hx hb dX2_sideOf_1 rfl (lv_at hl 1 rfl) ?_
  obtain ⟨v1, hg, hm⟩ := xbnd hm
  refine xcallV xm_X2_41 xt_X2_alikeAt X hP hS (qX2_alikeAt l w x1 M0 v1 hg) xy32 rfl ⟨Nat.le_of_ble_eq_true rfl, Nat.le_of_ble_eq_true rfl⟩ ⟨rfl, rfl⟩ hl.1 rfl (rest := []) rfl (Nat.le_of_ble_eq_true rfl) dX2_sideOf_2 ⟨Nat.zero_le _, Nat.zero_le _⟩ (fun H locs hP hS => ?_)
  refine W.eq (g2 := F0 m 5 ls [.int v1]) rfl ?_
  refine lv_istore_n (lv' := [(2, .int v1), (0, .ref (xa w 32)), (1, .int x1)]) hx hb dX2_sideOf_5 rfl hl (by decide) rfl (fun ls hl => ?_)
  refine lv_iload_n hx hb dX2_sideOf_6 rfl (lv_at hl 0 rfl) ?_
  refine lv_aload_n hx hb dX2_sideOf_7 rfl (lv_at hl 1 rfl) ?_
  refine xgeti xcX2 X hP 32 3 xy32 (by decide) xf_X2_23 rfl dX2_sideOf_8 ?_
  refine lv_icmp_ne (tgt := 16) hx hb dX2_sideOf_11 (by decide) (fun c2 => ?_) (fun c2 => ?_)
  · have hm := xiff c2 hm
    refine lv_iload_n hx hb dX2_sideOf_16 rfl (lv_at hl 2 rfl) ?_
    refine lv_iload_n hx hb dX2_sideOf_17 rfl (lv_at hl 0 rfl) ?_
    refine lv_iadd hx hb dX2_sideOf_18 ?_
    refine lv_aload_n hx hb dX2_sideOf_19 rfl (lv_at hl 1 rfl) ?_
    refine xget xcX2 X hP 32 1 xy32 (by decide) xf_X2_15 rfl dX2_sideOf_20 ?_
    refine xgeti xcX7 X hP 4 4 xy4 (by decide) xf_X2_27 rfl dX2_sideOf_23 ?_
    refine lv_icmp_ge (tgt := 49) hx hb dX2_sideOf_26 (by decide) (fun c3 => ?_) (fun c3 => ?_)
    · have hm := xift c3 hm
      refine lv_iconst (v := (-1)) hx hb dX2_sideOf_49 (by decide) ?_
      obtain rfl := Option.some.inj hm
      exact xiret X hP hS dX2_sideOf_50
    · have hm := xiff c3 hm
      refine lv_aload_n hx hb dX2_sideOf_29 rfl (lv_at hl 1 rfl) ?_
      refine xget xcX2 X hP 32 1 xy32 (by decide) xf_X2_15 rfl dX2_sideOf_30 ?_
      refine xget xcX7 X hP 4 0 xy4 (by decide) xf_X2_44 rfl dX2_sideOf_33 ?_
      refine lv_iload_n hx hb dX2_sideOf_36 rfl (lv_at hl 2 rfl) ?_
      refine lv_iload_n hx hb dX2_sideOf_37 rfl (lv_at hl 0 rfl) ?_
      refine lv_iadd hx hb dX2_sideOf_38 ?_
      obtain ⟨hi4, hm⟩ := xifn hm
      refine xiald X hP 5 xy5 hi4 dX2_sideOf_39 ?_
      refine lv_aload_n hx hb dX2_sideOf_40 rfl (lv_at hl 1 rfl) ?_
      refine xget xcX2 X hP 32 0 xy32 (by decide) xf_X2_9 rfl dX2_sideOf_41 ?_
      refine lv_iload_n hx hb dX2_sideOf_44 rfl (lv_at hl 0 rfl) ?_
      obtain ⟨hi5, hm⟩ := xifn hm
      refine xiald X hP 33 xy33 hi5 dX2_sideOf_45 ?_
      refine lv_icmp_ge (tgt := 51) hx hb dX2_sideOf_46 (by decide) (fun c6 => ?_) (fun c6 => ?_)
      · have hm := xift c6 hm
        refine lv_iconst (v := 1) hx hb dX2_sideOf_51 (by decide) ?_
        obtain rfl := Option.some.inj hm
        exact xiret X hP hS dX2_sideOf_52
      · have hm := xiff c6 hm
        refine lv_iconst (v := (-1)) hx hb dX2_sideOf_49 (by decide) ?_
        obtain rfl := Option.some.inj hm
        exact xiret X hP hS dX2_sideOf_50
  · have hm := xift c2 hm
    refine lv_iconst (v := 0) hx hb dX2_sideOf_14 (by decide) ?_
    obtain rfl := Option.some.inj hm
    exact xiret X hP hS dX2_sideOf_15
