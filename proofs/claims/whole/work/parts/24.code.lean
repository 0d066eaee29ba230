def fX4_sort_86  : Nat → Int32 → xM → Option (xM)
  | 0 => fun _ _ => none
  | n + 1 => fun x3 M => if x3 < 0 then (some M) else ((fX4_orderFromBelow x3 M).bind fun v2 => fX4_sort_86 n (x3 + (-1)) v2)
theorem fX4_sort_86_s  (n : Nat) (x3 : Int32) (M : xM) : fX4_sort_86  (n + 1) x3 M = (if x3 < 0 then (some M) else ((fX4_orderFromBelow x3 M).bind fun v2 => fX4_sort_86 n (x3 + (-1)) v2)) := rfl
set_option maxHeartbeats 4000000 in
set_option maxRecDepth 100000 in
theorem kX4_sort_86 {p : Program} {l : Launch} {e : Env} {s : State} {m : MethodId} {args : Array Value} {below : List Frame} {meth : Method} {c : Code} {w : xT} (X : xX p s m args meth c cX4_sort 4 none RX4 w) (V : xM)  : ∀ (n : Nat) (x3 : Int32) (M : xM) (H : Heap) (locs : List Loc) (ls : Array Slot), fX4_sort_86  n x3 M = some V → xP w M H → xS w s H locs → lv_has ls 4 [(0, .ref (xa w 13)), (3, .int x3)] → W p l e { frames := 5, cells := 0, slots := 0, locals := 114 } s m args below meth c H locs 0 0 (xQ w none V below args s) (F0 m 86 ls []) := by
  have hx := X.1
  have hb := X.2.1
  have hown := X.2.2.2.2.2.1
  have hts := X.2.2.2.2.2.2.1
  intro n
  induction n with
  | zero => intro x3 M H locs ls hm hP hS hl; exact xnon hm
  | succ n ih =>
    intro x3 M H locs ls hm hP hS hl
    rw [fX4_sort_86_s] at hm
    refine lv_iload_n hx hb dX4_sort_86 rfl (lv_at hl 1 rfl) ?_
    refine lv_if_lt (tgt := 101) hx hb dX4_sort_87 (by decide) (fun c1 => ?_) (fun c1 => ?_)
    · have hm := xift c1 hm
      obtain rfl := Option.some.inj hm
      exact xvret X hP hS dX4_sort_101
    · have hm := xiff c1 hm
      refine lv_aload_n hx hb dX4_sort_90 rfl (lv_at hl 0 rfl) ?_
      refine lv_iload_n hx hb dX4_sort_91 rfl (lv_at hl 1 rfl) ?_
      obtain ⟨v2, hg, hm⟩ := xbnd hm
      refine xcallV xm_X4_59 xt_X4_orderFromBelow X hP hS (qX4_orderFromBelow l w x3 M v2 hg) xy13 rfl ⟨Nat.le_of_ble_eq_true rfl, Nat.le_of_ble_eq_true rfl⟩ ⟨rfl, rfl⟩ hl.1 rfl (rest := []) rfl (Nat.le_of_ble_eq_true rfl) dX4_sort_92 ⟨Nat.zero_le _, Nat.zero_le _⟩ (fun H locs hP hS => ?_)
      refine W.eq (g2 := F0 m 95 ls []) rfl ?_
      refine lv_iinc (v := x3 + (-1)) (lv' := [(3, .int (x3 + (-1))), (0, .ref (xa w 13))]) hx hb dX4_sort_95 hl (k := 1) rfl rfl (by decide) rfl (fun ls hl => ?_)
      refine lv_goto (tgt := 86) hx hb dX4_sort_98 (by decide) ?_
      exact ih (x3 + (-1)) v2 _ _ _ hm hP hS (lv_sub hl [1, 0] rfl)
def fX4_sort_79  (x3 : Int32) (M : xM) : Option (xM) := (fX4_orderByNames (x3 + 1) M).bind fun v3 => fX4_sort_86 4096 x3 v3
theorem fX4_sort_79_s  (x3 : Int32) (M : xM) : fX4_sort_79  x3 M = ((fX4_orderByNames (x3 + 1) M).bind fun v3 => fX4_sort_86 4096 x3 v3) := rfl
set_option maxHeartbeats 4000000 in
set_option maxRecDepth 100000 in
theorem kX4_sort_79 {p : Program} {l : Launch} {e : Env} {s : State} {m : MethodId} {args : Array Value} {below : List Frame} {meth : Method} {c : Code} {w : xT} (X : xX p s m args meth c cX4_sort 4 none RX4 w) (V : xM)  : ∀ (x3 : Int32) (M : xM) (H : Heap) (locs : List Loc) (ls : Array Slot), fX4_sort_79  x3 M = some V → xP w M H → xS w s H locs → lv_has ls 4 [(0, .ref (xa w 13)), (3, .int x3)] → W p l e { frames := 5, cells := 0, slots := 0, locals := 114 } s m args below meth c H locs 0 0 (xQ w none V below args s) (F0 m 79 ls []) := by
  have hx := X.1
  have hb := X.2.1
  have hown := X.2.2.2.2.2.1
  have hts := X.2.2.2.2.2.2.1
  intro x3 M H locs ls hm hP hS hl
  rw [fX4_sort_79_s] at hm
  refine lv_aload_n hx hb dX4_sort_79 rfl (lv_at hl 0 rfl) ?_
  refine lv_iload_n hx hb dX4_sort_80 rfl (lv_at hl 1 rfl) ?_
  refine lv_iconst (v := 1) hx hb dX4_sort_81 (by decide) ?_
  refine lv_iadd hx hb dX4_sort_82 ?_
  obtain ⟨v3, hg, hm⟩ := xbnd hm
  refine xcallV xm_X4_56 xt_X4_orderByNames X hP hS (qX4_orderByNames l w (x3 + 1) M v3 hg) xy13 rfl ⟨Nat.le_of_ble_eq_true rfl, Nat.le_of_ble_eq_true rfl⟩ ⟨rfl, rfl⟩ hl.1 rfl (rest := []) rfl (Nat.le_of_ble_eq_true rfl) dX4_sort_83 ⟨Nat.zero_le _, Nat.zero_le _⟩ (fun H locs hP hS => ?_)
  refine W.eq (g2 := F0 m 86 ls []) rfl ?_
  exact kX4_sort_86 X V  4096 x3 v3 _ _ _ hm hP hS (lv_sub hl [0, 1] rfl)
def fX4_sort_41  : Nat → Int32 → xM → Option (xM)
  | 0 => fun _ _ => none
  | n + 1 => fun x3 M => if 10 ≤ (x3 + 1) then (fX4_sort_79 x3 M) else (if xin (x3 + 1) 11 then if xin (x3 + 1) 11 then if (M 19 (x3 + 1).toNatClampNeg) ≤ (M 20 (x3 + 1).toNatClampNeg) then (fX4_sort_79 x3 M) else ((fX4_makeLevelBelow (x3 + 1) M).bind fun v8 => fX4_sort_41 n (x3 + 1) v8) else none else none)
theorem fX4_sort_41_s  (n : Nat) (x3 : Int32) (M : xM) : fX4_sort_41  (n + 1) x3 M = (if 10 ≤ (x3 + 1) then (fX4_sort_79 x3 M) else (if xin (x3 + 1) 11 then if xin (x3 + 1) 11 then if (M 19 (x3 + 1).toNatClampNeg) ≤ (M 20 (x3 + 1).toNatClampNeg) then (fX4_sort_79 x3 M) else ((fX4_makeLevelBelow (x3 + 1) M).bind fun v8 => fX4_sort_41 n (x3 + 1) v8) else none else none)) := rfl
set_option maxHeartbeats 4000000 in
set_option maxRecDepth 100000 in
theorem kX4_sort_41 {p : Program} {l : Launch} {e : Env} {s : State} {m : MethodId} {args : Array Value} {below : List Frame} {meth : Method} {c : Code} {w : xT} (X : xX p s m args meth c cX4_sort 4 none RX4 w) (V : xM)  : ∀ (n : Nat) (x3 : Int32) (M : xM) (H : Heap) (locs : List Loc) (ls : Array Slot), fX4_sort_41  n x3 M = some V → xP w M H → xS w s H locs → lv_has ls 4 [(0, .ref (xa w 13)), (3, .int x3)] → W p l e { frames := 5, cells := 0, slots := 0, locals := 114 } s m args below meth c H locs 0 0 (xQ w none V below args s) (F0 m 41 ls []) := by
  have hx := X.1
  have hb := X.2.1
  have hown := X.2.2.2.2.2.1
  have hts := X.2.2.2.2.2.2.1
  intro n
  induction n with
  | zero => intro x3 M H locs ls hm hP hS hl; exact xnon hm
  | succ n ih =>
    intro x3 M H locs ls hm hP hS hl
    rw [fX4_sort_41_s] at hm
    refine lv_iload_n hx hb dX4_sort_41 rfl (lv_at hl 1 rfl) ?_
    refine lv_iconst (v := 1) hx hb dX4_sort_42 (by decide) ?_
    refine lv_iadd hx hb dX4_sort_43 ?_
    refine lv_bipush (v := 10) hx hb dX4_sort_44 (by decide) ?_
    refine lv_icmp_ge (tgt := 79) hx hb dX4_sort_46 (by decide) (fun c4 => ?_) (fun c4 => ?_)
    · have hm := xift c4 hm
      exact kX4_sort_79 X V  x3 M _ _ _ hm hP hS (lv_sub hl [0, 1] rfl)
    · have hm := xiff c4 hm
      refine lv_aload_n hx hb dX4_sort_49 rfl (lv_at hl 0 rfl) ?_
      refine xget xcX4 X hP 13 6 xy13 (by decide) xf_X4_31 rfl dX4_sort_50 ?_
      refine lv_iload_n hx hb dX4_sort_53 rfl (lv_at hl 1 rfl) ?_
      refine lv_iconst (v := 1) hx hb dX4_sort_54 (by decide) ?_
      refine lv_iadd hx hb dX4_sort_55 ?_
      obtain ⟨hi5, hm⟩ := xifn hm
      refine xiald X hP 20 xy20 hi5 dX4_sort_56 ?_
      refine lv_aload_n hx hb dX4_sort_57 rfl (lv_at hl 0 rfl) ?_
      refine xget xcX4 X hP 13 5 xy13 (by decide) xf_X4_28 rfl dX4_sort_58 ?_
      refine lv_iload_n hx hb dX4_sort_61 rfl (lv_at hl 1 rfl) ?_
      refine lv_iconst (v := 1) hx hb dX4_sort_62 (by decide) ?_
      refine lv_iadd hx hb dX4_sort_63 ?_
      obtain ⟨hi6, hm⟩ := xifn hm
      refine xiald X hP 19 xy19 hi6 dX4_sort_64 ?_
      refine lv_icmp_ge (tgt := 79) hx hb dX4_sort_65 (by decide) (fun c7 => ?_) (fun c7 => ?_)
      · have hm := xift c7 hm
        exact kX4_sort_79 X V  x3 M _ _ _ hm hP hS (lv_sub hl [0, 1] rfl)
      · have hm := xiff c7 hm
        refine lv_iinc (v := x3 + 1) (lv' := [(3, .int (x3 + 1)), (0, .ref (xa w 13))]) hx hb dX4_sort_68 hl (k := 1) rfl rfl (by decide) rfl (fun ls hl => ?_)
        refine lv_aload_n hx hb dX4_sort_71 rfl (lv_at hl 1 rfl) ?_
        refine lv_iload_n hx hb dX4_sort_72 rfl (lv_at hl 0 rfl) ?_
        obtain ⟨v8, hg, hm⟩ := xbnd hm
        refine xcallV xm_X4_52 xt_X4_makeLevelBelow X hP hS (qX4_makeLevelBelow l w (x3 + 1) M v8 hg) xy13 rfl ⟨Nat.le_of_ble_eq_true rfl, Nat.le_of_ble_eq_true rfl⟩ ⟨rfl, rfl⟩ hl.1 rfl (rest := []) rfl (Nat.le_of_ble_eq_true rfl) dX4_sort_73 ⟨Nat.zero_le _, Nat.zero_le _⟩ (fun H locs hP hS => ?_)
        refine W.eq (g2 := F0 m 76 ls []) rfl ?_
        refine lv_goto (tgt := 41) hx hb dX4_sort_76 (by decide) ?_
        exact ih (x3 + 1) v8 _ _ _ hm hP hS (lv_sub hl [1, 0] rfl)
def fX4_sort (x2 : Int32) (M : xM) : Option (xM) := if xcin 0 0 x2 408 816 then xlt (xcp M 5 15 0 0 x2) fun M10 => xlt (xs1 M10 18 (0 : Int32).toNatClampNeg 0) fun M11 => xlt (xs1 M11 19 (0 : Int32).toNatClampNeg x2) fun M12 => xlt (xs1 M12 20 (0 : Int32).toNatClampNeg 1008) fun M13 => (fX4_makeLevelBelow 0 M13).bind fun v14 => fX4_sort_41 4096 0 v14 else none
theorem fX4_sort_s (x2 : Int32) (M : xM) : fX4_sort x2 M = (if xcin 0 0 x2 408 816 then xlt (xcp M 5 15 0 0 x2) fun M10 => xlt (xs1 M10 18 (0 : Int32).toNatClampNeg 0) fun M11 => xlt (xs1 M11 19 (0 : Int32).toNatClampNeg x2) fun M12 => xlt (xs1 M12 20 (0 : Int32).toNatClampNeg 1008) fun M13 => (fX4_makeLevelBelow 0 M13).bind fun v14 => fX4_sort_41 4096 0 v14 else none) := rfl
set_option maxHeartbeats 4000000 in
set_option maxRecDepth 100000 in
theorem qX4_sort (l : Launch) (w : xT) (x2 : Int32) (M : xM) (V : xM) (hm : fX4_sort x2 M = some V) : xC l yX4_sort (Cond.code yX4_sort cX4_sort 4 none) { frames := 5, cells := 0, slots := 0, locals := 114 } w [.ref (xa w 13), .ref (xa w 5), .int x2] M none V := by
  refine xC.of (by decide) (Nat.le_of_ble_eq_true rfl) ?_
  intro p e s m args below meth c ls X hP hS hl
  have hl : lv_has ls 4 [(0, .ref (xa w 13)), (1, .ref (xa w 5)), (2, .int x2)] := hl
  have X : xX p s m args meth c cX4_sort 4 none RX4 w := X
  have hx := X.1
  have hb := X.2.1
  have hown := X.2.2.2.2.2.1
  have hts := X.2.2.2.2.2.2.1
  rw [fX4_sort_s] at hm
  refine lv_aload_n hx hb dX4_sort_0 rfl (lv_at hl 1 rfl) ?_
  refine lv_iconst (v := 0) hx hb dX4_sort_1 (by decide) ?_
  refine lv_aload_n hx hb dX4_sort_2 rfl (lv_at hl 0 rfl) ?_
  refine xget xcX4 X hP 13 1 xy13 (by decide) xf_X4_15 rfl dX4_sort_3 ?_
  refine lv_iconst (v := 0) hx hb dX4_sort_6 (by decide) ?_
  refine lv_iload_n hx hb dX4_sort_7 rfl (lv_at hl 2 rfl) ?_
  obtain ⟨hi9, hm⟩ := xifn hm
  refine xcopy xm_X4_46 xac1 xac2 xac3 X hP hS 5 15 xy5 xy15 hi9 hl.1 (by decide) (by decide) dX4_sort_8 (fun M10 H locs eM10 hP hS => ?_)
  have hm := xltE hm eM10
  refine lv_aload_n hx hb dX4_sort_11 rfl (lv_at hl 0 rfl) ?_
  refine xget xcX4 X hP 13 4 xy13 (by decide) xf_X4_25 rfl dX4_sort_12 ?_
  refine lv_iconst (v := 0) hx hb dX4_sort_15 (by decide) ?_
  refine lv_iconst (v := 0) hx hb dX4_sort_16 (by decide) ?_
  refine xiast X hP hS 18 xy18 (by decide) dX4_sort_17 (fun M11 H locs eM11 hP hS => ?_)
  have hm := xltE hm eM11
  refine lv_aload_n hx hb dX4_sort_18 rfl (lv_at hl 0 rfl) ?_
  refine xget xcX4 X hP 13 5 xy13 (by decide) xf_X4_28 rfl dX4_sort_19 ?_
  refine lv_iconst (v := 0) hx hb dX4_sort_22 (by decide) ?_
  refine lv_iload_n hx hb dX4_sort_23 rfl (lv_at hl 2 rfl) ?_
  refine xiast X hP hS 19 xy19 (by decide) dX4_sort_24 (fun M12 H locs eM12 hP hS => ?_)
  have hm := xltE hm eM12
  refine lv_aload_n hx hb dX4_sort_25 rfl (lv_at hl 0 rfl) ?_
  refine xget xcX4 X hP 13 6 xy13 (by decide) xf_X4_31 rfl dX4_sort_26 ?_
  refine lv_iconst (v := 0) hx hb dX4_sort_29 (by decide) ?_
  refine lv_sipush (v := 1008) hx hb dX4_sort_30 (by decide) ?_
  refine xiast X hP hS 20 xy20 (by decide) dX4_sort_33 (fun M13 H locs eM13 hP hS => ?_)
  have hm := xltE hm eM13
  refine lv_iconst (v := 0) hx hb dX4_sort_34 (by decide) ?_
  refine lv_istore_n (lv' := [(3, .int 0), (0, .ref (xa w 13)), (1, .ref (xa w 5)), (2, .int x2)]) hx hb dX4_sort_35 rfl hl (by decide) rfl (fun ls hl => ?_)
  refine lv_aload_n hx hb dX4_sort_36 rfl (lv_at hl 1 rfl) ?_
  refine lv_iconst (v := 0) hx hb dX4_sort_37 (by decide) ?_
  obtain ⟨v14, hg, hm⟩ := xbnd hm
  refine xcallV xm_X4_52 xt_X4_makeLevelBelow X hP hS (qX4_makeLevelBelow l w 0 M13 v14 hg) xy13 rfl ⟨Nat.le_of_ble_eq_true rfl, Nat.le_of_ble_eq_true rfl⟩ ⟨rfl, rfl⟩ hl.1 rfl (rest := []) rfl (Nat.le_of_ble_eq_true rfl) dX4_sort_38 ⟨Nat.zero_le _, Nat.zero_le _⟩ (fun H locs hP hS => ?_)
  refine W.eq (g2 := F0 m 41 ls []) rfl ?_
  exact kX4_sort_41 X V  4096 0 v14 _ _ _ hm hP hS (lv_sub hl [1, 0] rfl)
def fX7_alikeFrom_3  : Nat → Int32 → Int32 → Int32 → xM → Option (Int32)
  | 0 => fun _ _ _ _ => none
  | n + 1 => fun x1 x2 x4 M0 => if (M0 4 4) ≤ (x1 + x4) then (some x4) else (if (M0 4 4) ≤ (x2 + x4) then (some x4) else (if xin (x1 + x4) 408 then if xin (x2 + x4) 408 then if (M0 5 (x1 + x4).toNatClampNeg) = (M0 5 (x2 + x4).toNatClampNeg) then (fX7_alikeFrom_3 n x1 x2 (x4 + 1) M0) else (some x4) else none else none))
theorem fX7_alikeFrom_3_s  (n : Nat) (x1 : Int32) (x2 : Int32) (x4 : Int32) (M0 : xM) : fX7_alikeFrom_3  (n + 1) x1 x2 x4 M0 = (if (M0 4 4) ≤ (x1 + x4) then (some x4) else (if (M0 4 4) ≤ (x2 + x4) then (some x4) else (if xin (x1 + x4) 408 then if xin (x2 + x4) 408 then if (M0 5 (x1 + x4).toNatClampNeg) = (M0 5 (x2 + x4).toNatClampNeg) then (fX7_alikeFrom_3 n x1 x2 (x4 + 1) M0) else (some x4) else none else none))) := rfl
set_option maxHeartbeats 4000000 in
set_option maxRecDepth 100000 in
theorem kX7_alikeFrom_3 {p : Program} {l : Launch} {e : Env} {s : State} {m : MethodId} {args : Array Value} {below : List Frame} {meth : Method} {c : Code} {w : xT} (X : xX p s m args meth c cX7_alikeFrom 5 (some .int) RX7 w) (V : Int32)  : ∀ (n : Nat) (x1 : Int32) (x2 : Int32) (x4 : Int32) (M0 : xM) (H : Heap) (locs : List Loc) (ls : Array Slot), fX7_alikeFrom_3  n x1 x2 x4 M0 = some V → xP w M0 H → xS w s H locs → lv_has ls 5 [(0, .ref (xa w 4)), (1, .int x1), (2, .int x2), (4, .int x4)] → W p l e { frames := 0, cells := 0, slots := 0, locals := 0 } s m args below meth c H locs 0 0 (xQ w (some (.int V)) M0 below args s) (F0 m 3 ls []) := by
  have hx := X.1
  have hb := X.2.1
  have hown := X.2.2.2.2.2.1
  have hts := X.2.2.2.2.2.2.1
  intro n
  induction n with
  | zero => intro x1 x2 x4 M0 H locs ls hm hP hS hl; exact xnon hm
  | succ n ih =>
    intro x1 x2 x4 M0 H locs ls hm hP hS hl
    rw [fX7_alikeFrom_3_s] at hm
    refine lv_iload_n hx hb dX7_alikeFrom_3 rfl (lv_at hl 1 rfl) ?_
    refine lv_iload hx hb dX7_alikeFrom_4 (lv_at hl 3 rfl) ?_
    refine lv_iadd hx hb dX7_alikeFrom_6 ?_
    refine lv_aload_n hx hb dX7_alikeFrom_7 rfl (lv_at hl 0 rfl) ?_
    refine xgeti xcX7 X hP 4 4 xy4 (by decide) xf_X7_24 rfl dX7_alikeFrom_8 ?_
    refine lv_icmp_ge (tgt := 52) hx hb dX7_alikeFrom_11 (by decide) (fun c1 => ?_) (fun c1 => ?_)
    · have hm := xift c1 hm
      refine lv_iload hx hb dX7_alikeFrom_52 (lv_at hl 3 rfl) ?_
      obtain rfl := Option.some.inj hm
      exact xiret X hP hS dX7_alikeFrom_54
    · have hm := xiff c1 hm
      refine lv_iload_n hx hb dX7_alikeFrom_14 rfl (lv_at hl 2 rfl) ?_
      refine lv_iload hx hb dX7_alikeFrom_15 (lv_at hl 3 rfl) ?_
      refine lv_iadd hx hb dX7_alikeFrom_17 ?_
      refine lv_aload_n hx hb dX7_alikeFrom_18 rfl (lv_at hl 0 rfl) ?_
      refine xgeti xcX7 X hP 4 4 xy4 (by decide) xf_X7_24 rfl dX7_alikeFrom_19 ?_
      refine lv_icmp_ge (tgt := 52) hx hb dX7_alikeFrom_22 (by decide) (fun c2 => ?_) (fun c2 => ?_)
      · have hm := xift c2 hm
        refine lv_iload hx hb dX7_alikeFrom_52 (lv_at hl 3 rfl) ?_
        obtain rfl := Option.some.inj hm
        exact xiret X hP hS dX7_alikeFrom_54
      · have hm := xiff c2 hm
        refine lv_aload_n hx hb dX7_alikeFrom_25 rfl (lv_at hl 0 rfl) ?_
        refine xget xcX7 X hP 4 0 xy4 (by decide) xf_X7_9 rfl dX7_alikeFrom_26 ?_
        refine lv_iload_n hx hb dX7_alikeFrom_29 rfl (lv_at hl 1 rfl) ?_
        refine lv_iload hx hb dX7_alikeFrom_30 (lv_at hl 3 rfl) ?_
        refine lv_iadd hx hb dX7_alikeFrom_32 ?_
        obtain ⟨hi3, hm⟩ := xifn hm
        refine xiald X hP 5 xy5 hi3 dX7_alikeFrom_33 ?_
        refine lv_aload_n hx hb dX7_alikeFrom_34 rfl (lv_at hl 0 rfl) ?_
        refine xget xcX7 X hP 4 0 xy4 (by decide) xf_X7_9 rfl dX7_alikeFrom_35 ?_
        refine lv_iload_n hx hb dX7_alikeFrom_38 rfl (lv_at hl 2 rfl) ?_
        refine lv_iload hx hb dX7_alikeFrom_39 (lv_at hl 3 rfl) ?_
        refine lv_iadd hx hb dX7_alikeFrom_41 ?_
        obtain ⟨hi4, hm⟩ := xifn hm
        refine xiald X hP 5 xy5 hi4 dX7_alikeFrom_42 ?_
        refine lv_icmp_ne (tgt := 52) hx hb dX7_alikeFrom_43 (by decide) (fun c5 => ?_) (fun c5 => ?_)
        · have hm := xiff c5 hm
          refine lv_iload hx hb dX7_alikeFrom_52 (lv_at hl 3 rfl) ?_
          obtain rfl := Option.some.inj hm
          exact xiret X hP hS dX7_alikeFrom_54
        · have hm := xift c5 hm
          refine lv_iinc (v := x4 + 1) (lv' := [(4, .int (x4 + 1)), (0, .ref (xa w 4)), (1, .int x1), (2, .int x2)]) hx hb dX7_alikeFrom_46 hl (k := 3) rfl rfl (by decide) rfl (fun ls hl => ?_)
          refine lv_goto (tgt := 3) hx hb dX7_alikeFrom_49 (by decide) ?_
          exact ih x1 x2 (x4 + 1) M0 _ _ _ hm hP hS (lv_sub hl [1, 2, 3, 0] rfl)
def fX7_alikeFrom (x1 : Int32) (x2 : Int32) (x3 : Int32) (M0 : xM) : Option (Int32) := fX7_alikeFrom_3 4096 x1 x2 x3 M0
theorem fX7_alikeFrom_s (x1 : Int32) (x2 : Int32) (x3 : Int32) (M0 : xM) : fX7_alikeFrom x1 x2 x3 M0 = (fX7_alikeFrom_3 4096 x1 x2 x3 M0) := rfl
set_option maxHeartbeats 4000000 in
set_option maxRecDepth 100000 in
theorem qX7_alikeFrom (l : Launch) (w : xT) (x1 : Int32) (x2 : Int32) (x3 : Int32) (M0 : xM) (V : Int32) (hm : fX7_alikeFrom x1 x2 x3 M0 = some V) : xC l yX7_alikeFrom (Cond.code yX7_alikeFrom cX7_alikeFrom 5 (some .int)) { frames := 0, cells := 0, slots := 0, locals := 0 } w [.ref (xa w 4), .int x1, .int x2, .int x3] M0 (some (.int V)) M0 := by
  refine xC.of (by decide) (Nat.le_of_ble_eq_true rfl) ?_
  intro p e s m args below meth c ls X hP hS hl
  have hl : lv_has ls 5 [(0, .ref (xa w 4)), (1, .int x1), (2, .int x2), (3, .int x3)] := hl
  have X : xX p s m args meth c cX7_alikeFrom 5 (some .int) RX7 w := X
  have hx := X.1
  have hb := X.2.1
  have hown := X.2.2.2.2.2.1
  have hts := X.2.2.2.2.2.2.1
  rw [fX7_alikeFrom_s] at hm
  refine lv_iload_n hx hb dX7_alikeFrom_0 rfl (lv_at hl 3 rfl) ?_
  refine lv_istore (lv' := [(4, .int x3), (0, .ref (xa w 4)), (1, .int x1), (2, .int x2), (3, .int x3)]) hx hb dX7_alikeFrom_1 hl (by decide) rfl (fun ls hl => ?_)
  exact kX7_alikeFrom_3 X V  4096 x1 x2 x3 M0 _ _ _ hm hP hS (lv_sub hl [1, 2, 3, 0] rfl)
def fX3_measureBesides_62 (k4 : Int32 → Int32 → xM → Option (xM)) (x1 : Int32) (x2 : Int32) (M : xM) : Option (xM) := k4 x1 (x2 + 1) M
theorem fX3_measureBesides_62_s (k4 : Int32 → Int32 → xM → Option (xM)) (x1 : Int32) (x2 : Int32) (M : xM) : fX3_measureBesides_62 k4 x1 x2 M = (k4 x1 (x2 + 1) M) := rfl
set_option maxHeartbeats 4000000 in
set_option maxRecDepth 100000 in
theorem kX3_measureBesides_62 {p : Program} {l : Launch} {e : Env} {s : State} {m : MethodId} {args : Array Value} {below : List Frame} {meth : Method} {c : Code} {w : xT} (X : xX p s m args meth c cX3_measureBesides 4 none RX3 w) (V : xM) (k4 : Int32 → Int32 → xM → Option (xM)) (hk4 : ∀ (x1 : Int32) (x2 : Int32) (M : xM) (H : Heap) (locs : List Loc) (ls : Array Slot), k4 x1 x2 M = some V → xP w M H → xS w s H locs → lv_has ls 4 [(0, .ref (xa w 9)), (1, .int x1), (2, .int x2)] → W p l e { frames := 1, cells := 0, slots := 0, locals := 24 } s m args below meth c H locs 0 0 (xQ w none V below args s) (F0 m 4 ls [])) : ∀ (x1 : Int32) (x2 : Int32) (M : xM) (H : Heap) (locs : List Loc) (ls : Array Slot), fX3_measureBesides_62 k4 x1 x2 M = some V → xP w M H → xS w s H locs → lv_has ls 4 [(0, .ref (xa w 9)), (1, .int x1), (2, .int x2)] → W p l e { frames := 1, cells := 0, slots := 0, locals := 24 } s m args below meth c H locs 0 0 (xQ w none V below args s) (F0 m 62 ls []) := by
  have hx := X.1
  have hb := X.2.1
  have hown := X.2.2.2.2.2.1
  have hts := X.2.2.2.2.2.2.1
  intro x1 x2 M H locs ls hm hP hS hl
  rw [fX3_measureBesides_62_s] at hm
  refine lv_iinc (v := x2 + 1) (lv' := [(2, .int (x2 + 1)), (0, .ref (xa w 9)), (1, .int x1)]) hx hb dX3_measureBesides_62 hl (k := 2) rfl rfl (by decide) rfl (fun ls hl => ?_)
  refine lv_goto (tgt := 4) hx hb dX3_measureBesides_65 (by decide) ?_
  exact hk4 x1 (x2 + 1) M _ _ _ hm hP hS (lv_sub hl [1, 2, 0] rfl)
def fX3_measureBesides_47 (k4 : Int32 → Int32 → xM → Option (xM)) (x2 : Int32) (x3 : Int32) (s0 : Int32) (M : xM) : Option (xM) := if xin x3 408 then xlt (xs1 M 12 x3.toNatClampNeg s0) fun M2 => if s0 ≤ 0 then (fX3_measureBesides_62 k4 s0 x2 M2) else (fX3_measureBesides_62 k4 (s0 + (-1)) x2 M2) else none
theorem fX3_measureBesides_47_s (k4 : Int32 → Int32 → xM → Option (xM)) (x2 : Int32) (x3 : Int32) (s0 : Int32) (M : xM) : fX3_measureBesides_47 k4 x2 x3 s0 M = (if xin x3 408 then xlt (xs1 M 12 x3.toNatClampNeg s0) fun M2 => if s0 ≤ 0 then (fX3_measureBesides_62 k4 s0 x2 M2) else (fX3_measureBesides_62 k4 (s0 + (-1)) x2 M2) else none) := rfl
set_option maxHeartbeats 4000000 in
set_option maxRecDepth 100000 in
theorem kX3_measureBesides_47 {p : Program} {l : Launch} {e : Env} {s : State} {m : MethodId} {args : Array Value} {below : List Frame} {meth : Method} {c : Code} {w : xT} (X : xX p s m args meth c cX3_measureBesides 4 none RX3 w) (V : xM) (k4 : Int32 → Int32 → xM → Option (xM)) (hk4 : ∀ (x1 : Int32) (x2 : Int32) (M : xM) (H : Heap) (locs : List Loc) (ls : Array Slot), k4 x1 x2 M = some V → xP w M H → xS w s H locs → lv_has ls 4 [(0, .ref (xa w 9)), (1, .int x1), (2, .int x2)] → W p l e { frames := 1, cells := 0, slots := 0, locals := 24 } s m args below meth c H locs 0 0 (xQ w none V below args s) (F0 m 4 ls [])) : ∀ (x2 : Int32) (x3 : Int32) (s0 : Int32) (M : xM) (H : Heap) (locs : List Loc) (ls : Array Slot), fX3_measureBesides_47 k4 x2 x3 s0 M = some V → xP w M H → xS w s H locs → lv_has ls 4 [(0, .ref (xa w 9)), (2, .int x2), (3, .int x3)] → W p l e { frames := 1, cells := 0, slots := 0, locals := 24 } s m args below meth c H locs 0 0 (xQ w none V below args s) (F0 m 47 ls [.int s0]) := by
  have hx := X.1
  have hb := X.2.1
  have hown := X.2.2.2.2.2.1
  have hts := X.2.2.2.2.2.2.1
  intro x2 x3 s0 M H locs ls hm hP hS hl
  rw [fX3_measureBesides_47_s] at hm
  refine lv_istore_n (lv' := [(1, .int s0), (0, .ref (xa w 9)), (2, .int x2), (3, .int x3)]) hx hb dX3_measureBesides_47 rfl hl (by decide) rfl (fun ls hl => ?_)
  refine lv_aload_n hx hb dX3_measureBesides_48 rfl (lv_at hl 1 rfl) ?_
  refine xget xcX3 X hP 9 2 xy9 (by decide) xf_X3_18 rfl dX3_measureBesides_49 ?_
  refine lv_iload_n hx hb dX3_measureBesides_52 rfl (lv_at hl 3 rfl) ?_
  refine lv_iload_n hx hb dX3_measureBesides_53 rfl (lv_at hl 0 rfl) ?_
  obtain ⟨hi1, hm⟩ := xifn hm
  refine xiast X hP hS 12 xy12 hi1 dX3_measureBesides_54 (fun M2 H locs eM2 hP hS => ?_)
  have hm := xltE hm eM2
  refine lv_iload_n hx hb dX3_measureBesides_55 rfl (lv_at hl 0 rfl) ?_
  refine lv_if_le (tgt := 62) hx hb dX3_measureBesides_56 (by decide) (fun c3 => ?_) (fun c3 => ?_)
  · have hm := xift c3 hm
    exact kX3_measureBesides_62 X V k4 hk4 s0 x2 M2 _ _ _ hm hP hS (lv_sub hl [1, 0, 2] rfl)
  · have hm := xiff c3 hm
    refine lv_iinc (v := s0 + (-1)) (lv' := [(1, .int (s0 + (-1))), (0, .ref (xa w 9)), (2, .int x2), (3, .int x3)]) hx hb dX3_measureBesides_59 hl (k := 0) rfl rfl (by decide) rfl (fun ls hl => ?_)
    exact kX3_measureBesides_62 X V k4 hk4 (s0 + (-1)) x2 M2 _ _ _ hm hP hS (lv_sub hl [1, 0, 2] rfl)
def fX3_measureBesides_4  : Nat → Int32 → Int32 → xM → Option (xM)
  | 0 => fun _ _ _ => none
  | n + 1 => fun x1 x2 M => if (M 4 4) ≤ x2 then (some M) else (if xin x2 408 then if (M 11 x2.toNatClampNeg) = 0 then (fX3_measureBesides_47 (fX3_measureBesides_4 n) x2 (M 11 x2.toNatClampNeg) 0 M) else (if xin ((M 11 x2.toNatClampNeg) - 1) 408 then (fX7_alikeFrom x2 (M 10 ((M 11 x2.toNatClampNeg) - 1).toNatClampNeg) x1 M).bind fun v8 => fX3_measureBesides_47 (fX3_measureBesides_4 n) x2 (M 11 x2.toNatClampNeg) v8 M else none) else none)
theorem fX3_measureBesides_4_s  (n : Nat) (x1 : Int32) (x2 : Int32) (M : xM) : fX3_measureBesides_4  (n + 1) x1 x2 M = (if (M 4 4) ≤ x2 then (some M) else (if xin x2 408 then if (M 11 x2.toNatClampNeg) = 0 then (fX3_measureBesides_47 (fX3_measureBesides_4 n) x2 (M 11 x2.toNatClampNeg) 0 M) else (if xin ((M 11 x2.toNatClampNeg) - 1) 408 then (fX7_alikeFrom x2 (M 10 ((M 11 x2.toNatClampNeg) - 1).toNatClampNeg) x1 M).bind fun v8 => fX3_measureBesides_47 (fX3_measureBesides_4 n) x2 (M 11 x2.toNatClampNeg) v8 M else none) else none)) := rfl
set_option maxHeartbeats 4000000 in
set_option maxRecDepth 100000 in
theorem kX3_measureBesides_4 {p : Program} {l : Launch} {e : Env} {s : State} {m : MethodId} {args : Array Value} {below : List Frame} {meth : Method} {c : Code} {w : xT} (X : xX p s m args meth c cX3_measureBesides 4 none RX3 w) (V : xM)  : ∀ (n : Nat) (x1 : Int32) (x2 : Int32) (M : xM) (H : Heap) (locs : List Loc) (ls : Array Slot), fX3_measureBesides_4  n x1 x2 M = some V → xP w M H → xS w s H locs → lv_has ls 4 [(0, .ref (xa w 9)), (1, .int x1), (2, .int x2)] → W p l e { frames := 1, cells := 0, slots := 0, locals := 24 } s m args below meth c H locs 0 0 (xQ w none V below args s) (F0 m 4 ls []) := by
  have hx := X.1
  have hb := X.2.1
  have hown := X.2.2.2.2.2.1
  have hts := X.2.2.2.2.2.2.1
  intro n
  induction n with
  | zero => intro x1 x2 M H locs ls hm hP hS hl; exact xnon hm
  | succ n ih =>
    intro x1 x2 M H locs ls hm hP hS hl
    rw [fX3_measureBesides_4_s] at hm
    refine lv_iload_n hx hb dX3_measureBesides_4 rfl (lv_at hl 2 rfl) ?_
    refine lv_aload_n hx hb dX3_measureBesides_5 rfl (lv_at hl 0 rfl) ?_
    refine xget xcX3 X hP 9 3 xy9 (by decide) xf_X3_28 rfl dX3_measureBesides_6 ?_
    refine xgeti xcX7 X hP 4 4 xy4 (by decide) xf_X3_37 rfl dX3_measureBesides_9 ?_
    refine lv_icmp_ge (tgt := 68) hx hb dX3_measureBesides_12 (by decide) (fun c4 => ?_) (fun c4 => ?_)
    · have hm := xift c4 hm
      obtain rfl := Option.some.inj hm
      exact xvret X hP hS dX3_measureBesides_68
    · have hm := xiff c4 hm
      refine lv_aload_n hx hb dX3_measureBesides_15 rfl (lv_at hl 0 rfl) ?_
      refine xget xcX3 X hP 9 1 xy9 (by decide) xf_X3_15 rfl dX3_measureBesides_16 ?_
      refine lv_iload_n hx hb dX3_measureBesides_19 rfl (lv_at hl 2 rfl) ?_
      obtain ⟨hi5, hm⟩ := xifn hm
      refine xiald X hP 11 xy11 hi5 dX3_measureBesides_20 ?_
      refine lv_istore_n (lv' := [(3, .int (M 11 x2.toNatClampNeg)), (0, .ref (xa w 9)), (1, .int x1), (2, .int x2)]) hx hb dX3_measureBesides_21 rfl hl (by decide) rfl (fun ls hl => ?_)
      refine lv_iload_n hx hb dX3_measureBesides_22 rfl (lv_at hl 0 rfl) ?_
      refine lv_if_ne (tgt := 30) hx hb dX3_measureBesides_23 (by decide) (fun c6 => ?_) (fun c6 => ?_)
      · have hm := xiff c6 hm
        refine lv_aload_n hx hb dX3_measureBesides_30 rfl (lv_at hl 1 rfl) ?_
        refine xget xcX3 X hP 9 3 xy9 (by decide) xf_X3_28 rfl dX3_measureBesides_31 ?_
        refine lv_iload_n hx hb dX3_measureBesides_34 rfl (lv_at hl 3 rfl) ?_
        refine lv_aload_n hx hb dX3_measureBesides_35 rfl (lv_at hl 1 rfl) ?_
        refine xget xcX3 X hP 9 0 xy9 (by decide) xf_X3_9 rfl dX3_measureBesides_36 ?_
        refine lv_iload_n hx hb dX3_measureBesides_39 rfl (lv_at hl 0 rfl) ?_
        refine lv_iconst (v := 1) hx hb dX3_measureBesides_40 (by decide) ?_
        refine lv_isub hx hb dX3_measureBesides_41 ?_
        obtain ⟨hi7, hm⟩ := xifn hm
        refine xiald X hP 10 xy10 hi7 dX3_measureBesides_42 ?_
        refine lv_iload_n hx hb dX3_measureBesides_43 rfl (lv_at hl 2 rfl) ?_
        obtain ⟨v8, hg, hm⟩ := xbnd hm
        refine xcallV xm_X3_57 xt_X7_alikeFrom X hP hS (qX7_alikeFrom l w x2 (M 10 ((M 11 x2.toNatClampNeg) - 1).toNatClampNeg) x1 M v8 hg) xy4 rfl ⟨Nat.le_of_ble_eq_true rfl, Nat.le_of_ble_eq_true rfl⟩ ⟨rfl, rfl⟩ hl.1 rfl (rest := []) rfl (Nat.le_of_ble_eq_true rfl) dX3_measureBesides_44 ⟨Nat.zero_le _, Nat.zero_le _⟩ (fun H locs hP hS => ?_)
        refine W.eq (g2 := F0 m 47 ls [.int v8]) rfl ?_
        exact kX3_measureBesides_47 X V (fX3_measureBesides_4 n) ih x2 (M 11 x2.toNatClampNeg) v8 M _ _ _ hm hP hS (lv_sub hl [1, 3, 0] rfl)
      · have hm := xift c6 hm
        refine lv_iconst (v := 0) hx hb dX3_measureBesides_26 (by decide) ?_
        refine lv_goto (tgt := 47) hx hb dX3_measureBesides_27 (by decide) ?_
        exact kX3_measureBesides_47 X V (fX3_measureBesides_4 n) ih x2 (M 11 x2.toNatClampNeg) 0 M _ _ _ hm hP hS (lv_sub hl [1, 3, 0] rfl)
def fX3_measureBesides  (M : xM) : Option (xM) := fX3_measureBesides_4 4096 0 0 M
theorem fX3_measureBesides_s  (M : xM) : fX3_measureBesides M = (fX3_measureBesides_4 4096 0 0 M) := rfl
set_option maxHeartbeats 4000000 in
set_option maxRecDepth 100000 in
theorem qX3_measureBesides (l : Launch) (w : xT)  (M : xM) (V : xM) (hm : fX3_measureBesides M = some V) : xC l yX3_measureBesides (Cond.code yX3_measureBesides cX3_measureBesides 4 none) { frames := 1, cells := 0, slots := 0, locals := 24 } w [.ref (xa w 9)] M none V := by
  refine xC.of (by decide) (Nat.le_of_ble_eq_true rfl) ?_
  intro p e s m args below meth c ls X hP hS hl
  have hl : lv_has ls 4 [(0, .ref (xa w 9))] := hl
  have X : xX p s m args meth c cX3_measureBesides 4 none RX3 w := X
  have hx := X.1
  have hb := X.2.1
  have hown := X.2.2.2.2.2.1
  have hts := X.2.2.2.2.2.2.1
  rw [fX3_measureBesides_s] at hm
  refine lv_iconst (v := 0) hx hb dX3_measureBesides_0 (by decide) ?_
  refine lv_istore_n (lv' := [(1, .int 0), (0, .ref (xa w 9))]) hx hb dX3_measureBesides_1 rfl hl (by decide) rfl (fun ls hl => ?_)
  refine lv_iconst (v := 0) hx hb dX3_measureBesides_2 (by decide) ?_
  refine lv_istore_n (lv' := [(2, .int 0), (1, .int 0), (0, .ref (xa w 9))]) hx hb dX3_measureBesides_3 rfl hl (by decide) rfl (fun ls hl => ?_)
  exact kX3_measureBesides_4 X V  4096 0 0 M _ _ _ hm hP hS (lv_sub hl [2, 1, 0] rfl)
def fX3_make_75   (M : xM) : Option (xM) := (fX3_measureBesides  M).bind fun v1 => some v1
theorem fX3_make_75_s   (M : xM) : fX3_make_75  M = ((fX3_measureBesides  M).bind fun v1 => some v1) := rfl
set_option maxHeartbeats 4000000 in
set_option maxRecDepth 100000 in
theorem kX3_make_75 {p : Program} {l : Launch} {e : Env} {s : State} {m : MethodId} {args : Array Value} {below : List Frame} {meth : Method} {c : Code} {w : xT} (X : xX p s m args meth c cX3_make 2 none RX3 w) (V : xM)  : ∀  (M : xM) (H : Heap) (locs : List Loc) (ls : Array Slot), fX3_make_75  M = some V → xP w M H → xS w s H locs → lv_has ls 2 [(0, .ref (xa w 9))] → W p l e { frames := 6, cells := 0, slots := 0, locals := 137 } s m args below meth c H locs 0 0 (xQ w none V below args s) (F0 m 75 ls []) := by
  have hx := X.1
  have hb := X.2.1
  have hown := X.2.2.2.2.2.1
  have hts := X.2.2.2.2.2.2.1
  intro M H locs ls hm hP hS hl
  rw [fX3_make_75_s] at hm
  refine lv_aload_n hx hb dX3_make_75 rfl (lv_at hl 0 rfl) ?_
  obtain ⟨v1, hg, hm⟩ := xbnd hm
  refine xcallV xm_X3_54 xt_X3_measureBesides X hP hS (qX3_measureBesides l w  M v1 hg) xy9 rfl ⟨Nat.le_of_ble_eq_true rfl, Nat.le_of_ble_eq_true rfl⟩ ⟨rfl, rfl⟩ hl.1 rfl (rest := []) rfl (Nat.le_of_ble_eq_true rfl) dX3_make_76 ⟨Nat.zero_le _, Nat.zero_le _⟩ (fun H locs hP hS => ?_)
  refine W.eq (g2 := F0 m 79 ls []) rfl ?_
  obtain rfl := Option.some.inj hm
  exact xvret X hP hS dX3_make_79
def fX3_make_46  : Nat → Int32 → xM → Option (xM)
  | 0 => fun _ _ => none
  | n + 1 => fun x1 M => if (M 4 4) ≤ x1 then (fX3_make_75  M) else (if xin x1 408 then if xin (M 10 x1.toNatClampNeg) 408 then xlt (xs1 M 11 (M 10 x1.toNatClampNeg).toNatClampNeg x1) fun M5 => fX3_make_46 n (x1 + 1) M5 else none else none)
theorem fX3_make_46_s  (n : Nat) (x1 : Int32) (M : xM) : fX3_make_46  (n + 1) x1 M = (if (M 4 4) ≤ x1 then (fX3_make_75  M) else (if xin x1 408 then if xin (M 10 x1.toNatClampNeg) 408 then xlt (xs1 M 11 (M 10 x1.toNatClampNeg).toNatClampNeg x1) fun M5 => fX3_make_46 n (x1 + 1) M5 else none else none)) := rfl
set_option maxHeartbeats 4000000 in
set_option maxRecDepth 100000 in
theorem kX3_make_46 {p : Program} {l : Launch} {e : Env} {s : State} {m : MethodId} {args : Array Value} {below : List Frame} {meth : Method} {c : Code} {w : xT} (X : xX p s m args meth c cX3_make 2 none RX3 w) (V : xM)  : ∀ (n : Nat) (x1 : Int32) (M : xM) (H : Heap) (locs : List Loc) (ls : Array Slot), fX3_make_46  n x1 M = some V → xP w M H → xS w s H locs → lv_has ls 2 [(0, .ref (xa w 9)), (1, .int x1)] → W p l e { frames := 6, cells := 0, slots := 0, locals := 137 } s m args below meth c H locs 0 0 (xQ w none V below args s) (F0 m 46 ls []) := by
  have hx := X.1
  have hb := X.2.1
  have hown := X.2.2.2.2.2.1
  have hts := X.2.2.2.2.2.2.1
  intro n
  induction n with
  | zero => intro x1 M H locs ls hm hP hS hl; exact xnon hm
  | succ n ih =>
    intro x1 M H locs ls hm hP hS hl
    rw [fX3_make_46_s] at hm
    refine lv_iload_n hx hb dX3_make_46 rfl (lv_at hl 1 rfl) ?_
    refine lv_aload_n hx hb dX3_make_47 rfl (lv_at hl 0 rfl) ?_
    refine xget xcX3 X hP 9 3 xy9 (by decide) xf_X3_28 rfl dX3_make_48 ?_
    refine xgeti xcX7 X hP 4 4 xy4 (by decide) xf_X3_37 rfl dX3_make_51 ?_
    refine lv_icmp_ge (tgt := 75) hx hb dX3_make_54 (by decide) (fun c2 => ?_) (fun c2 => ?_)
    · have hm := xift c2 hm
      exact kX3_make_75 X V  M _ _ _ hm hP hS (lv_sub hl [0] rfl)
    · have hm := xiff c2 hm
      refine lv_aload_n hx hb dX3_make_57 rfl (lv_at hl 0 rfl) ?_
      refine xget xcX3 X hP 9 1 xy9 (by decide) xf_X3_15 rfl dX3_make_58 ?_
      refine lv_aload_n hx hb dX3_make_61 rfl (lv_at hl 0 rfl) ?_
      refine xget xcX3 X hP 9 0 xy9 (by decide) xf_X3_9 rfl dX3_make_62 ?_
      refine lv_iload_n hx hb dX3_make_65 rfl (lv_at hl 1 rfl) ?_
      obtain ⟨hi3, hm⟩ := xifn hm
      refine xiald X hP 10 xy10 hi3 dX3_make_66 ?_
      refine lv_iload_n hx hb dX3_make_67 rfl (lv_at hl 1 rfl) ?_
      obtain ⟨hi4, hm⟩ := xifn hm
      refine xiast X hP hS 11 xy11 hi4 dX3_make_68 (fun M5 H locs eM5 hP hS => ?_)
      have hm := xltE hm eM5
      refine lv_iinc (v := x1 + 1) (lv' := [(1, .int (x1 + 1)), (0, .ref (xa w 9))]) hx hb dX3_make_69 hl (k := 1) rfl rfl (by decide) rfl (fun ls hl => ?_)
      refine lv_goto (tgt := 46) hx hb dX3_make_72 (by decide) ?_
      exact ih (x1 + 1) M5 _ _ _ hm hP hS (lv_sub hl [1, 0] rfl)
def fX3_make  (M : xM) : Option (xM) := (fX4_sort (M 4 4) M).bind fun v6 => if xcin 0 0 (v6 4 4) 408 408 then xlt (xcp v6 14 10 0 0 (v6 4 4)) fun M8 => fX3_make_46 4096 0 M8 else none
theorem fX3_make_s  (M : xM) : fX3_make M = ((fX4_sort (M 4 4) M).bind fun v6 => if xcin 0 0 (v6 4 4) 408 408 then xlt (xcp v6 14 10 0 0 (v6 4 4)) fun M8 => fX3_make_46 4096 0 M8 else none) := rfl
set_option maxHeartbeats 4000000 in
set_option maxRecDepth 100000 in
theorem qX3_make (l : Launch) (w : xT)  (M : xM) (V : xM) (hm : fX3_make M = some V) : xC l yX3_make (Cond.code yX3_make cX3_make 2 none) { frames := 6, cells := 0, slots := 0, locals := 137 } w [.ref (xa w 9)] M none V := by
  refine xC.of (by decide) (Nat.le_of_ble_eq_true rfl) ?_
  intro p e s m args below meth c ls X hP hS hl
  have hl : lv_has ls 2 [(0, .ref (xa w 9))] := hl
  have X : xX p s m args meth c cX3_make 2 none RX3 w := X
  have hx := X.1
  have hb := X.2.1
  have hown := X.2.2.2.2.2.1
  have hts := X.2.2.2.2.2.2.1
  rw [fX3_make_s] at hm
  refine lv_aload_n hx hb dX3_make_0 rfl (lv_at hl 0 rfl) ?_
  refine xget xcX3 X hP 9 4 xy9 (by decide) xf_X3_24 rfl dX3_make_1 ?_
  refine lv_aload_n hx hb dX3_make_4 rfl (lv_at hl 0 rfl) ?_
  refine xget xcX3 X hP 9 3 xy9 (by decide) xf_X3_28 rfl dX3_make_5 ?_
  refine xget xcX7 X hP 4 0 xy4 (by decide) xf_X3_32 rfl dX3_make_8 ?_
  refine lv_aload_n hx hb dX3_make_11 rfl (lv_at hl 0 rfl) ?_
  refine xget xcX3 X hP 9 3 xy9 (by decide) xf_X3_28 rfl dX3_make_12 ?_
  refine xgeti xcX7 X hP 4 4 xy4 (by decide) xf_X3_37 rfl dX3_make_15 ?_
  obtain ⟨v6, hg, hm⟩ := xbnd hm
  refine xcallV xm_X3_41 xt_X4_sort X hP hS (qX4_sort l w (M 4 4) M v6 hg) xy13 rfl ⟨Nat.le_of_ble_eq_true rfl, Nat.le_of_ble_eq_true rfl⟩ ⟨rfl, rfl⟩ hl.1 rfl (rest := []) rfl (Nat.le_of_ble_eq_true rfl) dX3_make_18 ⟨Nat.zero_le _, Nat.zero_le _⟩ (fun H locs hP hS => ?_)
  refine W.eq (g2 := F0 m 21 ls []) rfl ?_
  refine lv_aload_n hx hb dX3_make_21 rfl (lv_at hl 0 rfl) ?_
  refine xget xcX3 X hP 9 4 xy9 (by decide) xf_X3_24 rfl dX3_make_22 ?_
  refine xget xcX4 X hP 13 0 xy13 (by decide) xf_X3_45 rfl dX3_make_25 ?_
  refine lv_iconst (v := 0) hx hb dX3_make_28 (by decide) ?_
  refine lv_aload_n hx hb dX3_make_29 rfl (lv_at hl 0 rfl) ?_
  refine xget xcX3 X hP 9 0 xy9 (by decide) xf_X3_9 rfl dX3_make_30 ?_
  refine lv_iconst (v := 0) hx hb dX3_make_33 (by decide) ?_
  refine lv_aload_n hx hb dX3_make_34 rfl (lv_at hl 0 rfl) ?_
  refine xget xcX3 X hP 9 3 xy9 (by decide) xf_X3_28 rfl dX3_make_35 ?_
  refine xgeti xcX7 X hP 4 4 xy4 (by decide) xf_X3_37 rfl dX3_make_38 ?_
  obtain ⟨hi7, hm⟩ := xifn hm
  refine xcopy xm_X3_48 xac1 xac2 xac3 X hP hS 14 10 xy14 xy10 hi7 hl.1 (by decide) (by decide) dX3_make_41 (fun M8 H locs eM8 hP hS => ?_)
  have hm := xltE hm eM8
  refine lv_iconst (v := 0) hx hb dX3_make_44 (by decide) ?_
  refine lv_istore_n (lv' := [(1, .int 0), (0, .ref (xa w 9))]) hx hb dX3_make_45 rfl hl (by decide) rfl (fun ls hl => ?_)
  exact kX3_make_46 X V  4096 0 M8 _ _ _ hm hP hS (lv_sub hl [1, 0] rfl)
def fX0_chainAll_47 (k2 : Int32 → xM → Option (xM)) (x1 : Int32) (s1 : Int32) (s2 : Int32) (M : xM) : Option (xM) := if xin s1 408 then xlt (xs1 M 30 s1.toNatClampNeg s2) fun M2 => if xin x1 408 then if xin x1 408 then xlt (xs1 M2 31 x1.toNatClampNeg (M2 12 x1.toNatClampNeg)) fun M5 => k2 (x1 + 1) M5 else none else none else none
theorem fX0_chainAll_47_s (k2 : Int32 → xM → Option (xM)) (x1 : Int32) (s1 : Int32) (s2 : Int32) (M : xM) : fX0_chainAll_47 k2 x1 s1 s2 M = (if xin s1 408 then xlt (xs1 M 30 s1.toNatClampNeg s2) fun M2 => if xin x1 408 then if xin x1 408 then xlt (xs1 M2 31 x1.toNatClampNeg (M2 12 x1.toNatClampNeg)) fun M5 => k2 (x1 + 1) M5 else none else none else none) := rfl
set_option maxHeartbeats 4000000 in
set_option maxRecDepth 100000 in
theorem kX0_chainAll_47 {p : Program} {l : Launch} {e : Env} {s : State} {m : MethodId} {args : Array Value} {below : List Frame} {meth : Method} {c : Code} {w : xT} (X : xX p s m args meth c cX0_chainAll 2 none RX0 w) (V : xM) (k2 : Int32 → xM → Option (xM)) (hk2 : ∀ (x1 : Int32) (M : xM) (H : Heap) (locs : List Loc) (ls : Array Slot), k2 x1 M = some V → xP w M H → xS w s H locs → lv_has ls 2 [(0, .ref (xa w 25)), (1, .int x1)] → W p l e { frames := 0, cells := 0, slots := 0, locals := 0 } s m args below meth c H locs 0 0 (xQ w none V below args s) (F0 m 2 ls [])) : ∀ (x1 : Int32) (s1 : Int32) (s2 : Int32) (M : xM) (H : Heap) (locs : List Loc) (ls : Array Slot), fX0_chainAll_47 k2 x1 s1 s2 M = some V → xP w M H → xS w s H locs → lv_has ls 2 [(0, .ref (xa w 25)), (1, .int x1)] → W p l e { frames := 0, cells := 0, slots := 0, locals := 0 } s m args below meth c H locs 0 0 (xQ w none V below args s) (F0 m 47 ls [.int s2, .int s1, .ref (xa w 30)]) := by
  have hx := X.1
  have hb := X.2.1
  have hown := X.2.2.2.2.2.1
  have hts := X.2.2.2.2.2.2.1
  intro x1 s1 s2 M H locs ls hm hP hS hl
  rw [fX0_chainAll_47_s] at hm
  obtain ⟨hi1, hm⟩ := xifn hm
  refine xiast X hP hS 30 xy30 hi1 dX0_chainAll_47 (fun M2 H locs eM2 hP hS => ?_)
  have hm := xltE hm eM2
  refine lv_aload_n hx hb dX0_chainAll_48 rfl (lv_at hl 0 rfl) ?_
  refine xget xcX0 X hP 25 7 xy25 (by decide) xf_X0_27 rfl dX0_chainAll_49 ?_
  refine lv_iload_n hx hb dX0_chainAll_52 rfl (lv_at hl 1 rfl) ?_
  refine lv_aload_n hx hb dX0_chainAll_53 rfl (lv_at hl 0 rfl) ?_
  refine xget xcX0 X hP 25 4 xy25 (by decide) xf_X0_34 rfl dX0_chainAll_54 ?_
  refine xget xcX3 X hP 9 2 xy9 (by decide) xf_X0_66 rfl dX0_chainAll_57 ?_
  refine lv_iload_n hx hb dX0_chainAll_60 rfl (lv_at hl 1 rfl) ?_
  obtain ⟨hi3, hm⟩ := xifn hm
  refine xiald X hP 12 xy12 hi3 dX0_chainAll_61 ?_
  obtain ⟨hi4, hm⟩ := xifn hm
  refine xiast X hP hS 31 xy31 hi4 dX0_chainAll_62 (fun M5 H locs eM5 hP hS => ?_)
  have hm := xltE hm eM5
  refine lv_iinc (v := x1 + 1) (lv' := [(1, .int (x1 + 1)), (0, .ref (xa w 25))]) hx hb dX0_chainAll_63 hl (k := 1) rfl rfl (by decide) rfl (fun ls hl => ?_)
  refine lv_goto (tgt := 2) hx hb dX0_chainAll_66 (by decide) ?_
  exact hk2 (x1 + 1) M5 _ _ _ hm hP hS (lv_sub hl [1, 0] rfl)
def fX0_chainAll_2  : Nat → Int32 → xM → Option (xM)
  | 0 => fun _ _ => none
  | n + 1 => fun x1 M => if (M 4 4) ≤ x1 then (some M) else (if xin x1 408 then xlt (xs1 M 29 x1.toNatClampNeg (x1 - 1)) fun M8 => if (M8 4 4) ≤ (x1 + 1) then (fX0_chainAll_47 (fX0_chainAll_2 n) x1 x1 (-1) M8) else (fX0_chainAll_47 (fX0_chainAll_2 n) x1 x1 (x1 + 1) M8) else none)
theorem fX0_chainAll_2_s  (n : Nat) (x1 : Int32) (M : xM) : fX0_chainAll_2  (n + 1) x1 M = (if (M 4 4) ≤ x1 then (some M) else (if xin x1 408 then xlt (xs1 M 29 x1.toNatClampNeg (x1 - 1)) fun M8 => if (M8 4 4) ≤ (x1 + 1) then (fX0_chainAll_47 (fX0_chainAll_2 n) x1 x1 (-1) M8) else (fX0_chainAll_47 (fX0_chainAll_2 n) x1 x1 (x1 + 1) M8) else none)) := rfl
set_option maxHeartbeats 4000000 in
set_option maxRecDepth 100000 in
theorem kX0_chainAll_2 {p : Program} {l : Launch} {e : Env} {s : State} {m : MethodId} {args : Array Value} {below : List Frame} {meth : Method} {c : Code} {w : xT} (X : xX p s m args meth c cX0_chainAll 2 none RX0 w) (V : xM)  : ∀ (n : Nat) (x1 : Int32) (M : xM) (H : Heap) (locs : List Loc) (ls : Array Slot), fX0_chainAll_2  n x1 M = some V → xP w M H → xS w s H locs → lv_has ls 2 [(0, .ref (xa w 25)), (1, .int x1)] → W p l e { frames := 0, cells := 0, slots := 0, locals := 0 } s m args below meth c H locs 0 0 (xQ w none V below args s) (F0 m 2 ls []) := by
  have hx := X.1
  have hb := X.2.1
  have hown := X.2.2.2.2.2.1
  have hts := X.2.2.2.2.2.2.1
  intro n
  induction n with
  | zero => intro x1 M H locs ls hm hP hS hl; exact xnon hm
  | succ n ih =>
    intro x1 M H locs ls hm hP hS hl
    rw [fX0_chainAll_2_s] at hm
    refine lv_iload_n hx hb dX0_chainAll_2 rfl (lv_at hl 1 rfl) ?_
    refine lv_aload_n hx hb dX0_chainAll_3 rfl (lv_at hl 0 rfl) ?_
    refine xget xcX0 X hP 25 3 xy25 (by decide) xf_X0_30 rfl dX0_chainAll_4 ?_
    refine xgeti xcX7 X hP 4 4 xy4 (by decide) xf_X0_41 rfl dX0_chainAll_7 ?_
    refine lv_icmp_ge (tgt := 69) hx hb dX0_chainAll_10 (by decide) (fun c6 => ?_) (fun c6 => ?_)
    · have hm := xift c6 hm
      obtain rfl := Option.some.inj hm
      exact xvret X hP hS dX0_chainAll_69
    · have hm := xiff c6 hm
      refine lv_aload_n hx hb dX0_chainAll_13 rfl (lv_at hl 0 rfl) ?_
      refine xget xcX0 X hP 25 5 xy25 (by decide) xf_X0_21 rfl dX0_chainAll_14 ?_
      refine lv_iload_n hx hb dX0_chainAll_17 rfl (lv_at hl 1 rfl) ?_
      refine lv_iload_n hx hb dX0_chainAll_18 rfl (lv_at hl 1 rfl) ?_
      refine lv_iconst (v := 1) hx hb dX0_chainAll_19 (by decide) ?_
      refine lv_isub hx hb dX0_chainAll_20 ?_
      obtain ⟨hi7, hm⟩ := xifn hm
      refine xiast X hP hS 29 xy29 hi7 dX0_chainAll_21 (fun M8 H locs eM8 hP hS => ?_)
      have hm := xltE hm eM8
      refine lv_aload_n hx hb dX0_chainAll_22 rfl (lv_at hl 0 rfl) ?_
      refine xget xcX0 X hP 25 6 xy25 (by decide) xf_X0_24 rfl dX0_chainAll_23 ?_
      refine lv_iload_n hx hb dX0_chainAll_26 rfl (lv_at hl 1 rfl) ?_
      refine lv_iload_n hx hb dX0_chainAll_27 rfl (lv_at hl 1 rfl) ?_
      refine lv_iconst (v := 1) hx hb dX0_chainAll_28 (by decide) ?_
      refine lv_iadd hx hb dX0_chainAll_29 ?_
      refine lv_aload_n hx hb dX0_chainAll_30 rfl (lv_at hl 0 rfl) ?_
      refine xget xcX0 X hP 25 3 xy25 (by decide) xf_X0_30 rfl dX0_chainAll_31 ?_
      refine xgeti xcX7 X hP 4 4 xy4 (by decide) xf_X0_41 rfl dX0_chainAll_34 ?_
      refine lv_icmp_ge (tgt := 46) hx hb dX0_chainAll_37 (by decide) (fun c9 => ?_) (fun c9 => ?_)
      · have hm := xift c9 hm
        refine lv_iconst (v := (-1)) hx hb dX0_chainAll_46 (by decide) ?_
        exact kX0_chainAll_47 X V (fX0_chainAll_2 n) ih x1 x1 (-1) M8 _ _ _ hm hP hS (lv_sub hl [0, 1] rfl)
      · have hm := xiff c9 hm
        refine lv_iload_n hx hb dX0_chainAll_40 rfl (lv_at hl 1 rfl) ?_
        refine lv_iconst (v := 1) hx hb dX0_chainAll_41 (by decide) ?_
        refine lv_iadd hx hb dX0_chainAll_42 ?_
        refine lv_goto (tgt := 47) hx hb dX0_chainAll_43 (by decide) ?_
        exact kX0_chainAll_47 X V (fX0_chainAll_2 n) ih x1 x1 (x1 + 1) M8 _ _ _ hm hP hS (lv_sub hl [0, 1] rfl)
def fX0_chainAll  (M : xM) : Option (xM) := fX0_chainAll_2 4096 0 M
theorem fX0_chainAll_s  (M : xM) : fX0_chainAll M = (fX0_chainAll_2 4096 0 M) := rfl
set_option maxHeartbeats 4000000 in
set_option maxRecDepth 100000 in
theorem qX0_chainAll (l : Launch) (w : xT)  (M : xM) (V : xM) (hm : fX0_chainAll M = some V) : xC l yX0_chainAll (Cond.code yX0_chainAll cX0_chainAll 2 none) { frames := 0, cells := 0, slots := 0, locals := 0 } w [.ref (xa w 25)] M none V := by
  refine xC.of (by decide) (Nat.le_of_ble_eq_true rfl) ?_
  intro p e s m args below meth c ls X hP hS hl
  have hl : lv_has ls 2 [(0, .ref (xa w 25))] := hl
  have X : xX p s m args meth c cX0_chainAll 2 none RX0 w := X
  have hx := X.1
  have hb := X.2.1
  have hown := X.2.2.2.2.2.1
  have hts := X.2.2.2.2.2.2.1
  rw [fX0_chainAll_s] at hm
  refine lv_iconst (v := 0) hx hb dX0_chainAll_0 (by decide) ?_
  refine lv_istore_n (lv' := [(1, .int 0), (0, .ref (xa w 25))]) hx hb dX0_chainAll_1 rfl hl (by decide) rfl (fun ls hl => ?_)
  exact kX0_chainAll_2 X V  4096 0 M _ _ _ hm hP hS (lv_sub hl [1, 0] rfl)
def fX0_takeLongest_122  (s1 : Int32) (s3 : Int32) (M : xM) : Option (xM) := if xin s3 408 then if xin s1 408 then xlt (xs1 M 26 s1.toNatClampNeg (M 10 s3.toNatClampNeg)) fun M3 => some M3 else none else none
theorem fX0_takeLongest_122_s  (s1 : Int32) (s3 : Int32) (M : xM) : fX0_takeLongest_122  s1 s3 M = (if xin s3 408 then if xin s1 408 then xlt (xs1 M 26 s1.toNatClampNeg (M 10 s3.toNatClampNeg)) fun M3 => some M3 else none else none) := rfl
set_option maxHeartbeats 4000000 in
set_option maxRecDepth 100000 in
theorem kX0_takeLongest_122 {p : Program} {l : Launch} {e : Env} {s : State} {m : MethodId} {args : Array Value} {below : List Frame} {meth : Method} {c : Code} {w : xT} (X : xX p s m args meth c cX0_takeLongest 5 none RX0 w) (V : xM)  : ∀ (s1 : Int32) (s3 : Int32) (M : xM) (H : Heap) (locs : List Loc) (ls : Array Slot), fX0_takeLongest_122  s1 s3 M = some V → xP w M H → xS w s H locs → lv_has ls 5 [] → W p l e { frames := 1, cells := 0, slots := 0, locals := 40 } s m args below meth c H locs 0 0 (xQ w none V below args s) (F0 m 122 ls [.int s3, .ref (xa w 10), .int s1, .ref (xa w 26)]) := by
  have hx := X.1
  have hb := X.2.1
  have hown := X.2.2.2.2.2.1
  have hts := X.2.2.2.2.2.2.1
  intro s1 s3 M H locs ls hm hP hS hl
  rw [fX0_takeLongest_122_s] at hm
  obtain ⟨hi1, hm⟩ := xifn hm
  refine xiald X hP 10 xy10 hi1 dX0_takeLongest_122 ?_
  obtain ⟨hi2, hm⟩ := xifn hm
  refine xiast X hP hS 26 xy26 hi2 dX0_takeLongest_123 (fun M3 H locs eM3 hP hS => ?_)
  have hm := xltE hm eM3
  obtain rfl := Option.some.inj hm
  exact xvret X hP hS dX0_takeLongest_124
def fX0_takeLongest_56  (x1 : Int32) (x2 : Int32) (x3 : Int32) (s0 : Int32) (M : xM) : Option (xM) := if xin x1 408 then xlt (xs1 M 27 x1.toNatClampNeg (if x3 < s0 then s0 else x3)) fun M5 => if xin x1 408 then if (M5 27 x1.toNatClampNeg) = 0 then (if xin x1 408 then xlt (xs1 M5 26 x1.toNatClampNeg (-1)) fun M12 => some M12 else none) else (if x3 < s0 then (if xin x2 408 then fX0_takeLongest_122 x1 (M5 30 x2.toNatClampNeg) M5 else none) else (if xin x2 408 then fX0_takeLongest_122 x1 (M5 29 x2.toNatClampNeg) M5 else none)) else none else none
theorem fX0_takeLongest_56_s  (x1 : Int32) (x2 : Int32) (x3 : Int32) (s0 : Int32) (M : xM) : fX0_takeLongest_56  x1 x2 x3 s0 M = (if xin x1 408 then xlt (xs1 M 27 x1.toNatClampNeg (if x3 < s0 then s0 else x3)) fun M5 => if xin x1 408 then if (M5 27 x1.toNatClampNeg) = 0 then (if xin x1 408 then xlt (xs1 M5 26 x1.toNatClampNeg (-1)) fun M12 => some M12 else none) else (if x3 < s0 then (if xin x2 408 then fX0_takeLongest_122 x1 (M5 30 x2.toNatClampNeg) M5 else none) else (if xin x2 408 then fX0_takeLongest_122 x1 (M5 29 x2.toNatClampNeg) M5 else none)) else none else none) := rfl
set_option maxHeartbeats 4000000 in
set_option maxRecDepth 100000 in
theorem kX0_takeLongest_56 {p : Program} {l : Launch} {e : Env} {s : State} {m : MethodId} {args : Array Value} {below : List Frame} {meth : Method} {c : Code} {w : xT} (X : xX p s m args meth c cX0_takeLongest 5 none RX0 w) (V : xM)  : ∀ (x1 : Int32) (x2 : Int32) (x3 : Int32) (s0 : Int32) (M : xM) (H : Heap) (locs : List Loc) (ls : Array Slot), fX0_takeLongest_56  x1 x2 x3 s0 M = some V → xP w M H → xS w s H locs → lv_has ls 5 [(0, .ref (xa w 25)), (1, .int x1), (2, .int x2), (3, .int x3)] → W p l e { frames := 1, cells := 0, slots := 0, locals := 40 } s m args below meth c H locs 0 0 (xQ w none V below args s) (F0 m 56 ls [.int s0]) := by
  have hx := X.1
  have hb := X.2.1
  have hown := X.2.2.2.2.2.1
  have hts := X.2.2.2.2.2.2.1
  intro x1 x2 x3 s0 M H locs ls hm hP hS hl
  rw [fX0_takeLongest_56_s] at hm
  refine lv_istore (lv' := [(4, .int s0), (0, .ref (xa w 25)), (1, .int x1), (2, .int x2), (3, .int x3)]) hx hb dX0_takeLongest_56 hl (by decide) rfl (fun ls hl => ?_)
  refine lv_aload_n hx hb dX0_takeLongest_58 rfl (lv_at hl 1 rfl) ?_
  refine xget xcX0 X hP 25 1 xy25 (by decide) xf_X0_15 rfl dX0_takeLongest_59 ?_
  refine lv_iload_n hx hb dX0_takeLongest_62 rfl (lv_at hl 2 rfl) ?_
  refine lv_iload_n hx hb dX0_takeLongest_63 rfl (lv_at hl 4 rfl) ?_
  refine lv_iload hx hb dX0_takeLongest_64 (lv_at hl 0 rfl) ?_
  refine va_mmax hx hb (X.2.2.1.trans hl.1.symm) hown (hts _ xm_X0_69) (hts _ xt_J9_max_7cf53) (hts _ xn_J9_max_7cf53) (hts _ xo_J9_max_7cf53) (by decide) (Nat.le_of_ble_eq_true rfl) (Nat.zero_le _) (Nat.zero_le _) dX0_takeLongest_66 ?_
  obtain ⟨hi4, hm⟩ := xifn hm
  refine xiast X hP hS 27 xy27 hi4 dX0_takeLongest_69 (fun M5 H locs eM5 hP hS => ?_)
  have hm := xltE hm eM5
  refine lv_aload_n hx hb dX0_takeLongest_70 rfl (lv_at hl 1 rfl) ?_
  refine xget xcX0 X hP 25 1 xy25 (by decide) xf_X0_15 rfl dX0_takeLongest_71 ?_
  refine lv_iload_n hx hb dX0_takeLongest_74 rfl (lv_at hl 2 rfl) ?_
  obtain ⟨hi6, hm⟩ := xifn hm
  refine xiald X hP 27 xy27 hi6 dX0_takeLongest_75 ?_
  refine lv_if_ne (tgt := 89) hx hb dX0_takeLongest_76 (by decide) (fun c7 => ?_) (fun c7 => ?_)
  · have hm := xiff c7 hm
    refine lv_aload_n hx hb dX0_takeLongest_89 rfl (lv_at hl 1 rfl) ?_
    refine xget xcX0 X hP 25 0 xy25 (by decide) xf_X0_9 rfl dX0_takeLongest_90 ?_
    refine lv_iload_n hx hb dX0_takeLongest_93 rfl (lv_at hl 2 rfl) ?_
    refine lv_aload_n hx hb dX0_takeLongest_94 rfl (lv_at hl 1 rfl) ?_
    refine xget xcX0 X hP 25 4 xy25 (by decide) xf_X0_34 rfl dX0_takeLongest_95 ?_
    refine xget xcX3 X hP 9 0 xy9 (by decide) xf_X0_75 rfl dX0_takeLongest_98 ?_
    refine lv_iload_n hx hb dX0_takeLongest_101 rfl (lv_at hl 4 rfl) ?_
    refine lv_iload hx hb dX0_takeLongest_102 (lv_at hl 0 rfl) ?_
    refine lv_icmp_lt (tgt := 116) hx hb dX0_takeLongest_104 (by decide) (fun c8 => ?_) (fun c8 => ?_)
    · have hm := xift c8 hm
      refine lv_aload_n hx hb dX0_takeLongest_116 rfl (lv_at hl 1 rfl) ?_
      refine xget xcX0 X hP 25 6 xy25 (by decide) xf_X0_24 rfl dX0_takeLongest_117 ?_
      refine lv_iload_n hx hb dX0_takeLongest_120 rfl (lv_at hl 3 rfl) ?_
      obtain ⟨hi9, hm⟩ := xifn hm
      refine xiald X hP 30 xy30 hi9 dX0_takeLongest_121 ?_
      exact kX0_takeLongest_122 X V  x1 (M5 30 x2.toNatClampNeg) M5 _ _ _ hm hP hS (lv_sub hl [] rfl)
    · have hm := xiff c8 hm
      refine lv_aload_n hx hb dX0_takeLongest_107 rfl (lv_at hl 1 rfl) ?_
      refine xget xcX0 X hP 25 5 xy25 (by decide) xf_X0_21 rfl dX0_takeLongest_108 ?_
      refine lv_iload_n hx hb dX0_takeLongest_111 rfl (lv_at hl 3 rfl) ?_
      obtain ⟨hi10, hm⟩ := xifn hm
      refine xiald X hP 29 xy29 hi10 dX0_takeLongest_112 ?_
      refine lv_goto (tgt := 122) hx hb dX0_takeLongest_113 (by decide) ?_
      exact kX0_takeLongest_122 X V  x1 (M5 29 x2.toNatClampNeg) M5 _ _ _ hm hP hS (lv_sub hl [] rfl)
  · have hm := xift c7 hm
    refine lv_aload_n hx hb dX0_takeLongest_79 rfl (lv_at hl 1 rfl) ?_
    refine xget xcX0 X hP 25 0 xy25 (by decide) xf_X0_9 rfl dX0_takeLongest_80 ?_
    refine lv_iload_n hx hb dX0_takeLongest_83 rfl (lv_at hl 2 rfl) ?_
    refine lv_iconst (v := (-1)) hx hb dX0_takeLongest_84 (by decide) ?_
    obtain ⟨hi11, hm⟩ := xifn hm
    refine xiast X hP hS 26 xy26 hi11 dX0_takeLongest_85 (fun M12 H locs eM12 hP hS => ?_)
    have hm := xltE hm eM12
    refine lv_goto (tgt := 124) hx hb dX0_takeLongest_86 (by decide) ?_
    obtain rfl := Option.some.inj hm
    exact xvret X hP hS dX0_takeLongest_124
def fX0_takeLongest_30  (x1 : Int32) (x2 : Int32) (s0 : Int32) (M : xM) : Option (xM) := if xin x2 408 then if (M 30 x2.toNatClampNeg) = (-1) then (fX0_takeLongest_56 x1 x2 s0 0 M) else (if xin x2 408 then if xin (M 30 x2.toNatClampNeg) 408 then fX0_takeLongest_56 x1 x2 s0 (M 31 (M 30 x2.toNatClampNeg).toNatClampNeg) M else none else none) else none
theorem fX0_takeLongest_30_s  (x1 : Int32) (x2 : Int32) (s0 : Int32) (M : xM) : fX0_takeLongest_30  x1 x2 s0 M = (if xin x2 408 then if (M 30 x2.toNatClampNeg) = (-1) then (fX0_takeLongest_56 x1 x2 s0 0 M) else (if xin x2 408 then if xin (M 30 x2.toNatClampNeg) 408 then fX0_takeLongest_56 x1 x2 s0 (M 31 (M 30 x2.toNatClampNeg).toNatClampNeg) M else none else none) else none) := rfl
set_option maxHeartbeats 4000000 in
set_option maxRecDepth 100000 in
theorem kX0_takeLongest_30 {p : Program} {l : Launch} {e : Env} {s : State} {m : MethodId} {args : Array Value} {below : List Frame} {meth : Method} {c : Code} {w : xT} (X : xX p s m args meth c cX0_takeLongest 5 none RX0 w) (V : xM)  : ∀ (x1 : Int32) (x2 : Int32) (s0 : Int32) (M : xM) (H : Heap) (locs : List Loc) (ls : Array Slot), fX0_takeLongest_30  x1 x2 s0 M = some V → xP w M H → xS w s H locs → lv_has ls 5 [(0, .ref (xa w 25)), (1, .int x1), (2, .int x2)] → W p l e { frames := 1, cells := 0, slots := 0, locals := 40 } s m args below meth c H locs 0 0 (xQ w none V below args s) (F0 m 30 ls [.int s0]) := by
  have hx := X.1
  have hb := X.2.1
  have hown := X.2.2.2.2.2.1
  have hts := X.2.2.2.2.2.2.1
  intro x1 x2 s0 M H locs ls hm hP hS hl
  rw [fX0_takeLongest_30_s] at hm
  refine lv_istore_n (lv' := [(3, .int s0), (0, .ref (xa w 25)), (1, .int x1), (2, .int x2)]) hx hb dX0_takeLongest_30 rfl hl (by decide) rfl (fun ls hl => ?_)
  refine lv_aload_n hx hb dX0_takeLongest_31 rfl (lv_at hl 1 rfl) ?_
  refine xget xcX0 X hP 25 6 xy25 (by decide) xf_X0_24 rfl dX0_takeLongest_32 ?_
  refine lv_iload_n hx hb dX0_takeLongest_35 rfl (lv_at hl 3 rfl) ?_
  obtain ⟨hi13, hm⟩ := xifn hm
  refine xiald X hP 30 xy30 hi13 dX0_takeLongest_36 ?_
  refine lv_iconst (v := (-1)) hx hb dX0_takeLongest_37 (by decide) ?_
  refine lv_icmp_ne (tgt := 45) hx hb dX0_takeLongest_38 (by decide) (fun c14 => ?_) (fun c14 => ?_)
  · have hm := xiff c14 hm
    refine lv_aload_n hx hb dX0_takeLongest_45 rfl (lv_at hl 1 rfl) ?_
    refine xget xcX0 X hP 25 7 xy25 (by decide) xf_X0_27 rfl dX0_takeLongest_46 ?_
    refine lv_aload_n hx hb dX0_takeLongest_49 rfl (lv_at hl 1 rfl) ?_
    refine xget xcX0 X hP 25 6 xy25 (by decide) xf_X0_24 rfl dX0_takeLongest_50 ?_
    refine lv_iload_n hx hb dX0_takeLongest_53 rfl (lv_at hl 3 rfl) ?_
    obtain ⟨hi15, hm⟩ := xifn hm
    refine xiald X hP 30 xy30 hi15 dX0_takeLongest_54 ?_
    obtain ⟨hi16, hm⟩ := xifn hm
    refine xiald X hP 31 xy31 hi16 dX0_takeLongest_55 ?_
    exact kX0_takeLongest_56 X V  x1 x2 s0 (M 31 (M 30 x2.toNatClampNeg).toNatClampNeg) M _ _ _ hm hP hS (lv_sub hl [1, 2, 3, 0] rfl)
  · have hm := xift c14 hm
    refine lv_iconst (v := 0) hx hb dX0_takeLongest_41 (by decide) ?_
    refine lv_goto (tgt := 56) hx hb dX0_takeLongest_42 (by decide) ?_
    exact kX0_takeLongest_56 X V  x1 x2 s0 0 M _ _ _ hm hP hS (lv_sub hl [1, 2, 3, 0] rfl)
def fX0_takeLongest (x1 : Int32) (M : xM) : Option (xM) := if xin x1 408 then if xin (M 11 x1.toNatClampNeg) 408 then if (M 29 (M 11 x1.toNatClampNeg).toNatClampNeg) = (-1) then (fX0_takeLongest_30 x1 (M 11 x1.toNatClampNeg) 0 M) else (if xin (M 11 x1.toNatClampNeg) 408 then fX0_takeLongest_30 x1 (M 11 x1.toNatClampNeg) (M 31 (M 11 x1.toNatClampNeg).toNatClampNeg) M else none) else none else none
theorem fX0_takeLongest_s (x1 : Int32) (M : xM) : fX0_takeLongest x1 M = (if xin x1 408 then if xin (M 11 x1.toNatClampNeg) 408 then if (M 29 (M 11 x1.toNatClampNeg).toNatClampNeg) = (-1) then (fX0_takeLongest_30 x1 (M 11 x1.toNatClampNeg) 0 M) else (if xin (M 11 x1.toNatClampNeg) 408 then fX0_takeLongest_30 x1 (M 11 x1.toNatClampNeg) (M 31 (M 11 x1.toNatClampNeg).toNatClampNeg) M else none) else none else none) := rfl
set_option maxHeartbeats 4000000 in
set_option maxRecDepth 100000 in
theorem qX0_takeLongest (l : Launch) (w : xT) (x1 : Int32) (M : xM) (V : xM) (hm : fX0_takeLongest x1 M = some V) : xC l yX0_takeLongest (Cond.code yX0_takeLongest cX0_takeLongest 5 none) { frames := 1, cells := 0, slots := 0, locals := 40 } w [.ref (xa w 25), .int x1] M none V := by
  refine xC.of (by decide) (Nat.le_of_ble_eq_true rfl) ?_
  intro p e s m args below meth c ls X hP hS hl
  have hl : lv_has ls 5 [(0, .ref (xa w 25)), (1, .int x1)] := hl
  have X : xX p s m args meth c cX0_takeLongest 5 none RX0 w := X
  have hx := X.1
  have hb := X.2.1
  have hown := X.2.2.2.2.2.1
  have hts := X.2.2.2.2.2.2.1
  rw [fX0_takeLongest_s] at hm
  refine lv_aload_n hx hb dX0_takeLongest_0 rfl (lv_at hl 0 rfl) ?_
  refine xget xcX0 X hP 25 4 xy25 (by decide) xf_X0_34 rfl dX0_takeLongest_1 ?_
  refine xget xcX3 X hP 9 1 xy9 (by decide) xf_X0_51 rfl dX0_takeLongest_4 ?_
  refine lv_iload_n hx hb dX0_takeLongest_7 rfl (lv_at hl 1 rfl) ?_
  obtain ⟨hi17, hm⟩ := xifn hm
  refine xiald X hP 11 xy11 hi17 dX0_takeLongest_8 ?_
  refine lv_istore_n (lv' := [(2, .int (M 11 x1.toNatClampNeg)), (0, .ref (xa w 25)), (1, .int x1)]) hx hb dX0_takeLongest_9 rfl hl (by decide) rfl (fun ls hl => ?_)
  refine lv_aload_n hx hb dX0_takeLongest_10 rfl (lv_at hl 1 rfl) ?_
  refine xget xcX0 X hP 25 5 xy25 (by decide) xf_X0_21 rfl dX0_takeLongest_11 ?_
  refine lv_iload_n hx hb dX0_takeLongest_14 rfl (lv_at hl 0 rfl) ?_
  obtain ⟨hi18, hm⟩ := xifn hm
  refine xiald X hP 29 xy29 hi18 dX0_takeLongest_15 ?_
  refine lv_iconst (v := (-1)) hx hb dX0_takeLongest_16 (by decide) ?_
  refine lv_icmp_ne (tgt := 24) hx hb dX0_takeLongest_17 (by decide) (fun c19 => ?_) (fun c19 => ?_)
  · have hm := xiff c19 hm
    refine lv_aload_n hx hb dX0_takeLongest_24 rfl (lv_at hl 1 rfl) ?_
    refine xget xcX0 X hP 25 7 xy25 (by decide) xf_X0_27 rfl dX0_takeLongest_25 ?_
    refine lv_iload_n hx hb dX0_takeLongest_28 rfl (lv_at hl 0 rfl) ?_
    obtain ⟨hi20, hm⟩ := xifn hm
    refine xiald X hP 31 xy31 hi20 dX0_takeLongest_29 ?_
    exact kX0_takeLongest_30 X V  x1 (M 11 x1.toNatClampNeg) (M 31 (M 11 x1.toNatClampNeg).toNatClampNeg) M _ _ _ hm hP hS (lv_sub hl [1, 2, 0] rfl)
  · have hm := xift c19 hm
    refine lv_iconst (v := 0) hx hb dX0_takeLongest_20 (by decide) ?_
    refine lv_goto (tgt := 30) hx hb dX0_takeLongest_21 (by decide) ?_
    exact kX0_takeLongest_30 X V  x1 (M 11 x1.toNatClampNeg) 0 M _ _ _ hm hP hS (lv_sub hl [1, 2, 0] rfl)
