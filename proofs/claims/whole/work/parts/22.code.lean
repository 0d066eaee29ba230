def fJ7_fill_fda19_23_10  : Nat → Int32 → Int32 → Int32 → xM → Option (xM)
  | 0 => fun _ _ _ _ => none
  | n + 1 => fun x2 x3 x4 M => if x2 ≤ x4 then (some M) else (if xin x4 1009 then xlt (xs1 M 23 x4.toNatClampNeg x3) fun M3 => fJ7_fill_fda19_23_10 n x2 x3 (x4 + 1) M3 else none)
theorem fJ7_fill_fda19_23_10_s  (n : Nat) (x2 : Int32) (x3 : Int32) (x4 : Int32) (M : xM) : fJ7_fill_fda19_23_10  (n + 1) x2 x3 x4 M = (if x2 ≤ x4 then (some M) else (if xin x4 1009 then xlt (xs1 M 23 x4.toNatClampNeg x3) fun M3 => fJ7_fill_fda19_23_10 n x2 x3 (x4 + 1) M3 else none)) := rfl
set_option maxHeartbeats 4000000 in
set_option maxRecDepth 100000 in
theorem kJ7_fill_fda19_23_10 {p : Program} {l : Launch} {e : Env} {s : State} {m : MethodId} {args : Array Value} {below : List Frame} {meth : Method} {c : Code} {w : xT} (X : xX p s m args meth c cJ7_fill_fda19 5 none RJ7 w) (V : xM)  : ∀ (n : Nat) (x2 : Int32) (x3 : Int32) (x4 : Int32) (M : xM) (H : Heap) (locs : List Loc) (ls : Array Slot), fJ7_fill_fda19_23_10  n x2 x3 x4 M = some V → xP w M H → xS w s H locs → lv_has ls 5 [(0, .ref (xa w 23)), (2, .int x2), (3, .int x3), (4, .int x4)] → W p l e { frames := 1, cells := 0, slots := 0, locals := 22 } s m args below meth c H locs 0 0 (xQ w none V below args s) (F0 m 10 ls []) := by
  have hx := X.1
  have hb := X.2.1
  have hown := X.2.2.2.2.2.1
  have hts := X.2.2.2.2.2.2.1
  intro n
  induction n with
  | zero => intro x2 x3 x4 M H locs ls hm hP hS hl; exact xnon hm
  | succ n ih =>
    intro x2 x3 x4 M H locs ls hm hP hS hl
    rw [fJ7_fill_fda19_23_10_s] at hm
    refine lv_iload hx hb dJ7_fill_fda19_10 (lv_at hl 3 rfl) ?_
    refine lv_iload_n hx hb dJ7_fill_fda19_12 rfl (lv_at hl 1 rfl) ?_
    refine lv_icmp_ge (tgt := 27) hx hb dJ7_fill_fda19_13 (by decide) (fun c1 => ?_) (fun c1 => ?_)
    · have hm := xift c1 hm
      obtain rfl := Option.some.inj hm
      exact xvret X hP hS dJ7_fill_fda19_27
    · have hm := xiff c1 hm
      refine lv_aload_n hx hb dJ7_fill_fda19_16 rfl (lv_at hl 0 rfl) ?_
      refine lv_iload hx hb dJ7_fill_fda19_17 (lv_at hl 3 rfl) ?_
      refine lv_iload_n hx hb dJ7_fill_fda19_19 rfl (lv_at hl 2 rfl) ?_
      obtain ⟨hi2, hm⟩ := xifn hm
      refine xiast X hP hS 23 xy23 hi2 dJ7_fill_fda19_20 (fun M3 H locs eM3 hP hS => ?_)
      have hm := xltE hm eM3
      refine lv_iinc (v := x4 + 1) (lv' := [(4, .int (x4 + 1)), (0, .ref (xa w 23)), (2, .int x2), (3, .int x3)]) hx hb dJ7_fill_fda19_21 hl (k := 3) rfl rfl (by decide) rfl (fun ls hl => ?_)
      refine lv_goto (tgt := 10) hx hb dJ7_fill_fda19_24 (by decide) ?_
      exact ih x2 x3 (x4 + 1) M3 _ _ _ hm hP hS (lv_sub hl [1, 2, 3, 0] rfl)
def fJ7_fill_fda19_23 (x1 : Int32) (x2 : Int32) (x3 : Int32) (M : xM) : Option (xM) := (fJ7_rangeCheck_23922 1009 x1 x2 M).bind fun v4 => fJ7_fill_fda19_23_10 4096 x2 x3 x1 M
theorem fJ7_fill_fda19_23_s (x1 : Int32) (x2 : Int32) (x3 : Int32) (M : xM) : fJ7_fill_fda19_23 x1 x2 x3 M = ((fJ7_rangeCheck_23922 1009 x1 x2 M).bind fun v4 => fJ7_fill_fda19_23_10 4096 x2 x3 x1 M) := rfl
set_option maxHeartbeats 4000000 in
set_option maxRecDepth 100000 in
theorem qJ7_fill_fda19_23 (l : Launch) (w : xT) (x1 : Int32) (x2 : Int32) (x3 : Int32) (M : xM) (V : xM) (hm : fJ7_fill_fda19_23 x1 x2 x3 M = some V) : xC l yJ7_fill_fda19 (Cond.code yJ7_fill_fda19 cJ7_fill_fda19 5 none) { frames := 1, cells := 0, slots := 0, locals := 22 } w [.ref (xa w 23), .int x1, .int x2, .int x3] M none V := by
  refine xC.of (by decide) (Nat.le_of_ble_eq_true rfl) ?_
  intro p e s m args below meth c ls X hP hS hl
  have hl : lv_has ls 5 [(0, .ref (xa w 23)), (1, .int x1), (2, .int x2), (3, .int x3)] := hl
  have X : xX p s m args meth c cJ7_fill_fda19 5 none RJ7 w := X
  have hx := X.1
  have hb := X.2.1
  have hown := X.2.2.2.2.2.1
  have hts := X.2.2.2.2.2.2.1
  rw [fJ7_fill_fda19_23_s] at hm
  refine lv_aload_n hx hb dJ7_fill_fda19_0 rfl (lv_at hl 0 rfl) ?_
  refine xalen X hP 23 xy23 (v := 1009) (by decide) dJ7_fill_fda19_1 ?_
  refine lv_iload_n hx hb dJ7_fill_fda19_2 rfl (lv_at hl 1 rfl) ?_
  refine lv_iload_n hx hb dJ7_fill_fda19_3 rfl (lv_at hl 2 rfl) ?_
  obtain ⟨v4, hg, hm⟩ := xbnd hm
  refine xcallS xm_J7_13 xt_J7_rangeCheck_23922 X hP hS (qJ7_rangeCheck_23922 l w 1009 x1 x2 M v4 hg) ⟨Nat.le_of_ble_eq_true rfl, Nat.le_of_ble_eq_true rfl⟩ ⟨rfl, rfl⟩ hl.1 rfl (rest := []) rfl (Nat.le_of_ble_eq_true rfl) dJ7_fill_fda19_4 ⟨Nat.zero_le _, Nat.zero_le _⟩ (fun H locs hP hS => ?_)
  refine W.eq (g2 := F0 m 7 ls []) rfl ?_
  refine lv_iload_n hx hb dJ7_fill_fda19_7 rfl (lv_at hl 1 rfl) ?_
  refine lv_istore (lv' := [(4, .int x1), (0, .ref (xa w 23)), (1, .int x1), (2, .int x2), (3, .int x3)]) hx hb dJ7_fill_fda19_8 hl (by decide) rfl (fun ls hl => ?_)
  exact kJ7_fill_fda19_23_10 X V  4096 x2 x3 x1 M _ _ _ hm hP hS (lv_sub hl [1, 3, 4, 0] rfl)
def fX4_countLetters_61  : Nat → Int32 → Int32 → xM → Option (xM)
  | 0 => fun _ _ _ => none
  | n + 1 => fun x1 x2 M => if xin x1 11 then if (M 20 x1.toNatClampNeg) ≤ x2 then (some M) else (if xin (x2 + 1) 1009 then if xin x2 1009 then if xin (x2 + 1) 1009 then xlt (xs1 M 23 (x2 + 1).toNatClampNeg ((M 23 (x2 + 1).toNatClampNeg) + (M 23 x2.toNatClampNeg))) fun M6 => fX4_countLetters_61 n x1 (x2 + 1) M6 else none else none else none) else none
theorem fX4_countLetters_61_s  (n : Nat) (x1 : Int32) (x2 : Int32) (M : xM) : fX4_countLetters_61  (n + 1) x1 x2 M = (if xin x1 11 then if (M 20 x1.toNatClampNeg) ≤ x2 then (some M) else (if xin (x2 + 1) 1009 then if xin x2 1009 then if xin (x2 + 1) 1009 then xlt (xs1 M 23 (x2 + 1).toNatClampNeg ((M 23 (x2 + 1).toNatClampNeg) + (M 23 x2.toNatClampNeg))) fun M6 => fX4_countLetters_61 n x1 (x2 + 1) M6 else none else none else none) else none) := rfl
set_option maxHeartbeats 4000000 in
set_option maxRecDepth 100000 in
theorem kX4_countLetters_61 {p : Program} {l : Launch} {e : Env} {s : State} {m : MethodId} {args : Array Value} {below : List Frame} {meth : Method} {c : Code} {w : xT} (X : xX p s m args meth c cX4_countLetters 3 none RX4 w) (V : xM)  : ∀ (n : Nat) (x1 : Int32) (x2 : Int32) (M : xM) (H : Heap) (locs : List Loc) (ls : Array Slot), fX4_countLetters_61  n x1 x2 M = some V → xP w M H → xS w s H locs → lv_has ls 3 [(0, .ref (xa w 13)), (1, .int x1), (2, .int x2)] → W p l e { frames := 2, cells := 0, slots := 0, locals := 46 } s m args below meth c H locs 0 0 (xQ w none V below args s) (F0 m 61 ls []) := by
  have hx := X.1
  have hb := X.2.1
  have hown := X.2.2.2.2.2.1
  have hts := X.2.2.2.2.2.2.1
  intro n
  induction n with
  | zero => intro x1 x2 M H locs ls hm hP hS hl; exact xnon hm
  | succ n ih =>
    intro x1 x2 M H locs ls hm hP hS hl
    rw [fX4_countLetters_61_s] at hm
    refine lv_iload_n hx hb dX4_countLetters_61 rfl (lv_at hl 2 rfl) ?_
    refine lv_aload_n hx hb dX4_countLetters_62 rfl (lv_at hl 0 rfl) ?_
    refine xget xcX4 X hP 13 6 xy13 (by decide) xf_X4_31 rfl dX4_countLetters_63 ?_
    refine lv_iload_n hx hb dX4_countLetters_66 rfl (lv_at hl 1 rfl) ?_
    obtain ⟨hi1, hm⟩ := xifn hm
    refine xiald X hP 20 xy20 hi1 dX4_countLetters_67 ?_
    refine lv_icmp_ge (tgt := 94) hx hb dX4_countLetters_68 (by decide) (fun c2 => ?_) (fun c2 => ?_)
    · have hm := xift c2 hm
      obtain rfl := Option.some.inj hm
      exact xvret X hP hS dX4_countLetters_94
    · have hm := xiff c2 hm
      refine lv_aload_n hx hb dX4_countLetters_71 rfl (lv_at hl 0 rfl) ?_
      refine xget xcX4 X hP 13 9 xy13 (by decide) xf_X4_40 rfl dX4_countLetters_72 ?_
      refine lv_iload_n hx hb dX4_countLetters_75 rfl (lv_at hl 2 rfl) ?_
      refine lv_iconst (v := 1) hx hb dX4_countLetters_76 (by decide) ?_
      refine lv_iadd hx hb dX4_countLetters_77 ?_
      refine lv_dup2_11 hx hb dX4_countLetters_78 rfl rfl ?_
      obtain ⟨hi3, hm⟩ := xifn hm
      refine xiald X hP 23 xy23 hi3 dX4_countLetters_79 ?_
      refine lv_aload_n hx hb dX4_countLetters_80 rfl (lv_at hl 0 rfl) ?_
      refine xget xcX4 X hP 13 9 xy13 (by decide) xf_X4_40 rfl dX4_countLetters_81 ?_
      refine lv_iload_n hx hb dX4_countLetters_84 rfl (lv_at hl 2 rfl) ?_
      obtain ⟨hi4, hm⟩ := xifn hm
      refine xiald X hP 23 xy23 hi4 dX4_countLetters_85 ?_
      refine lv_iadd hx hb dX4_countLetters_86 ?_
      obtain ⟨hi5, hm⟩ := xifn hm
      refine xiast X hP hS 23 xy23 hi5 dX4_countLetters_87 (fun M6 H locs eM6 hP hS => ?_)
      have hm := xltE hm eM6
      refine lv_iinc (v := x2 + 1) (lv' := [(2, .int (x2 + 1)), (0, .ref (xa w 13)), (1, .int x1)]) hx hb dX4_countLetters_88 hl (k := 2) rfl rfl (by decide) rfl (fun ls hl => ?_)
      refine lv_goto (tgt := 61) hx hb dX4_countLetters_91 (by decide) ?_
      exact ih x1 (x2 + 1) M6 _ _ _ hm hP hS (lv_sub hl [1, 2, 0] rfl)
def fX4_countLetters_59  (x1 : Int32) (M : xM) : Option (xM) := fX4_countLetters_61 4096 x1 0 M
theorem fX4_countLetters_59_s  (x1 : Int32) (M : xM) : fX4_countLetters_59  x1 M = (fX4_countLetters_61 4096 x1 0 M) := rfl
set_option maxHeartbeats 4000000 in
set_option maxRecDepth 100000 in
theorem kX4_countLetters_59 {p : Program} {l : Launch} {e : Env} {s : State} {m : MethodId} {args : Array Value} {below : List Frame} {meth : Method} {c : Code} {w : xT} (X : xX p s m args meth c cX4_countLetters 3 none RX4 w) (V : xM)  : ∀ (x1 : Int32) (M : xM) (H : Heap) (locs : List Loc) (ls : Array Slot), fX4_countLetters_59  x1 M = some V → xP w M H → xS w s H locs → lv_has ls 3 [(0, .ref (xa w 13)), (1, .int x1)] → W p l e { frames := 2, cells := 0, slots := 0, locals := 46 } s m args below meth c H locs 0 0 (xQ w none V below args s) (F0 m 59 ls []) := by
  have hx := X.1
  have hb := X.2.1
  have hown := X.2.2.2.2.2.1
  have hts := X.2.2.2.2.2.2.1
  intro x1 M H locs ls hm hP hS hl
  rw [fX4_countLetters_59_s] at hm
  refine lv_iconst (v := 0) hx hb dX4_countLetters_59 (by decide) ?_
  refine lv_istore_n (lv' := [(2, .int 0), (0, .ref (xa w 13)), (1, .int x1)]) hx hb dX4_countLetters_60 rfl hl (by decide) rfl (fun ls hl => ?_)
  exact kX4_countLetters_61 X V  4096 x1 0 M _ _ _ hm hP hS (lv_sub hl [1, 2, 0] rfl)
def fX4_countLetters_19  : Nat → Int32 → Int32 → xM → Option (xM)
  | 0 => fun _ _ _ => none
  | n + 1 => fun x1 x2 M => if xin x1 11 then if (M 19 x1.toNatClampNeg) ≤ x2 then (fX4_countLetters_59 x1 M) else (if xin x1 11 then if xin ((M 18 x1.toNatClampNeg) + x2) 816 then if xin ((M 15 ((M 18 x1.toNatClampNeg) + x2).toNatClampNeg) + 1) 1009 then if xin ((M 15 ((M 18 x1.toNatClampNeg) + x2).toNatClampNeg) + 1) 1009 then xlt (xs1 M 23 ((M 15 ((M 18 x1.toNatClampNeg) + x2).toNatClampNeg) + 1).toNatClampNeg ((M 23 ((M 15 ((M 18 x1.toNatClampNeg) + x2).toNatClampNeg) + 1).toNatClampNeg) + 1)) fun M13 => fX4_countLetters_19 n x1 (x2 + 1) M13 else none else none else none else none) else none
theorem fX4_countLetters_19_s  (n : Nat) (x1 : Int32) (x2 : Int32) (M : xM) : fX4_countLetters_19  (n + 1) x1 x2 M = (if xin x1 11 then if (M 19 x1.toNatClampNeg) ≤ x2 then (fX4_countLetters_59 x1 M) else (if xin x1 11 then if xin ((M 18 x1.toNatClampNeg) + x2) 816 then if xin ((M 15 ((M 18 x1.toNatClampNeg) + x2).toNatClampNeg) + 1) 1009 then if xin ((M 15 ((M 18 x1.toNatClampNeg) + x2).toNatClampNeg) + 1) 1009 then xlt (xs1 M 23 ((M 15 ((M 18 x1.toNatClampNeg) + x2).toNatClampNeg) + 1).toNatClampNeg ((M 23 ((M 15 ((M 18 x1.toNatClampNeg) + x2).toNatClampNeg) + 1).toNatClampNeg) + 1)) fun M13 => fX4_countLetters_19 n x1 (x2 + 1) M13 else none else none else none else none) else none) := rfl
set_option maxHeartbeats 4000000 in
set_option maxRecDepth 100000 in
theorem kX4_countLetters_19 {p : Program} {l : Launch} {e : Env} {s : State} {m : MethodId} {args : Array Value} {below : List Frame} {meth : Method} {c : Code} {w : xT} (X : xX p s m args meth c cX4_countLetters 3 none RX4 w) (V : xM)  : ∀ (n : Nat) (x1 : Int32) (x2 : Int32) (M : xM) (H : Heap) (locs : List Loc) (ls : Array Slot), fX4_countLetters_19  n x1 x2 M = some V → xP w M H → xS w s H locs → lv_has ls 3 [(0, .ref (xa w 13)), (1, .int x1), (2, .int x2)] → W p l e { frames := 2, cells := 0, slots := 0, locals := 46 } s m args below meth c H locs 0 0 (xQ w none V below args s) (F0 m 19 ls []) := by
  have hx := X.1
  have hb := X.2.1
  have hown := X.2.2.2.2.2.1
  have hts := X.2.2.2.2.2.2.1
  intro n
  induction n with
  | zero => intro x1 x2 M H locs ls hm hP hS hl; exact xnon hm
  | succ n ih =>
    intro x1 x2 M H locs ls hm hP hS hl
    rw [fX4_countLetters_19_s] at hm
    refine lv_iload_n hx hb dX4_countLetters_19 rfl (lv_at hl 2 rfl) ?_
    refine lv_aload_n hx hb dX4_countLetters_20 rfl (lv_at hl 0 rfl) ?_
    refine xget xcX4 X hP 13 5 xy13 (by decide) xf_X4_28 rfl dX4_countLetters_21 ?_
    refine lv_iload_n hx hb dX4_countLetters_24 rfl (lv_at hl 1 rfl) ?_
    obtain ⟨hi7, hm⟩ := xifn hm
    refine xiald X hP 19 xy19 hi7 dX4_countLetters_25 ?_
    refine lv_icmp_ge (tgt := 59) hx hb dX4_countLetters_26 (by decide) (fun c8 => ?_) (fun c8 => ?_)
    · have hm := xift c8 hm
      exact kX4_countLetters_59 X V  x1 M _ _ _ hm hP hS (lv_sub hl [0, 1] rfl)
    · have hm := xiff c8 hm
      refine lv_aload_n hx hb dX4_countLetters_29 rfl (lv_at hl 0 rfl) ?_
      refine xget xcX4 X hP 13 9 xy13 (by decide) xf_X4_40 rfl dX4_countLetters_30 ?_
      refine lv_aload_n hx hb dX4_countLetters_33 rfl (lv_at hl 0 rfl) ?_
      refine xget xcX4 X hP 13 1 xy13 (by decide) xf_X4_15 rfl dX4_countLetters_34 ?_
      refine lv_aload_n hx hb dX4_countLetters_37 rfl (lv_at hl 0 rfl) ?_
      refine xget xcX4 X hP 13 4 xy13 (by decide) xf_X4_25 rfl dX4_countLetters_38 ?_
      refine lv_iload_n hx hb dX4_countLetters_41 rfl (lv_at hl 1 rfl) ?_
      obtain ⟨hi9, hm⟩ := xifn hm
      refine xiald X hP 18 xy18 hi9 dX4_countLetters_42 ?_
      refine lv_iload_n hx hb dX4_countLetters_43 rfl (lv_at hl 2 rfl) ?_
      refine lv_iadd hx hb dX4_countLetters_44 ?_
      obtain ⟨hi10, hm⟩ := xifn hm
      refine xiald X hP 15 xy15 hi10 dX4_countLetters_45 ?_
      refine lv_iconst (v := 1) hx hb dX4_countLetters_46 (by decide) ?_
      refine lv_iadd hx hb dX4_countLetters_47 ?_
      refine lv_dup2_11 hx hb dX4_countLetters_48 rfl rfl ?_
      obtain ⟨hi11, hm⟩ := xifn hm
      refine xiald X hP 23 xy23 hi11 dX4_countLetters_49 ?_
      refine lv_iconst (v := 1) hx hb dX4_countLetters_50 (by decide) ?_
      refine lv_iadd hx hb dX4_countLetters_51 ?_
      obtain ⟨hi12, hm⟩ := xifn hm
      refine xiast X hP hS 23 xy23 hi12 dX4_countLetters_52 (fun M13 H locs eM13 hP hS => ?_)
      have hm := xltE hm eM13
      refine lv_iinc (v := x2 + 1) (lv' := [(2, .int (x2 + 1)), (0, .ref (xa w 13)), (1, .int x1)]) hx hb dX4_countLetters_53 hl (k := 2) rfl rfl (by decide) rfl (fun ls hl => ?_)
      refine lv_goto (tgt := 19) hx hb dX4_countLetters_56 (by decide) ?_
      exact ih x1 (x2 + 1) M13 _ _ _ hm hP hS (lv_sub hl [1, 2, 0] rfl)
def fX4_countLetters (x1 : Int32) (M : xM) : Option (xM) := if xin x1 11 then (fJ7_fill_fda19_23 0 ((M 20 x1.toNatClampNeg) + 1) 0 M).bind fun v15 => fX4_countLetters_19 4096 x1 0 v15 else none
theorem fX4_countLetters_s (x1 : Int32) (M : xM) : fX4_countLetters x1 M = (if xin x1 11 then (fJ7_fill_fda19_23 0 ((M 20 x1.toNatClampNeg) + 1) 0 M).bind fun v15 => fX4_countLetters_19 4096 x1 0 v15 else none) := rfl
set_option maxHeartbeats 4000000 in
set_option maxRecDepth 100000 in
theorem qX4_countLetters (l : Launch) (w : xT) (x1 : Int32) (M : xM) (V : xM) (hm : fX4_countLetters x1 M = some V) : xC l yX4_countLetters (Cond.code yX4_countLetters cX4_countLetters 3 none) { frames := 2, cells := 0, slots := 0, locals := 46 } w [.ref (xa w 13), .int x1] M none V := by
  refine xC.of (by decide) (Nat.le_of_ble_eq_true rfl) ?_
  intro p e s m args below meth c ls X hP hS hl
  have hl : lv_has ls 3 [(0, .ref (xa w 13)), (1, .int x1)] := hl
  have X : xX p s m args meth c cX4_countLetters 3 none RX4 w := X
  have hx := X.1
  have hb := X.2.1
  have hown := X.2.2.2.2.2.1
  have hts := X.2.2.2.2.2.2.1
  rw [fX4_countLetters_s] at hm
  refine lv_aload_n hx hb dX4_countLetters_0 rfl (lv_at hl 0 rfl) ?_
  refine xget xcX4 X hP 13 9 xy13 (by decide) xf_X4_40 rfl dX4_countLetters_1 ?_
  refine lv_iconst (v := 0) hx hb dX4_countLetters_4 (by decide) ?_
  refine lv_aload_n hx hb dX4_countLetters_5 rfl (lv_at hl 0 rfl) ?_
  refine xget xcX4 X hP 13 6 xy13 (by decide) xf_X4_31 rfl dX4_countLetters_6 ?_
  refine lv_iload_n hx hb dX4_countLetters_9 rfl (lv_at hl 1 rfl) ?_
  obtain ⟨hi14, hm⟩ := xifn hm
  refine xiald X hP 20 xy20 hi14 dX4_countLetters_10 ?_
  refine lv_iconst (v := 1) hx hb dX4_countLetters_11 (by decide) ?_
  refine lv_iadd hx hb dX4_countLetters_12 ?_
  refine lv_iconst (v := 0) hx hb dX4_countLetters_13 (by decide) ?_
  obtain ⟨v15, hg, hm⟩ := xbnd hm
  refine xcallS xm_X4_88 xt_J7_fill_fda19 X hP hS (qJ7_fill_fda19_23 l w 0 ((M 20 x1.toNatClampNeg) + 1) 0 M v15 hg) ⟨Nat.le_of_ble_eq_true rfl, Nat.le_of_ble_eq_true rfl⟩ ⟨rfl, rfl⟩ hl.1 rfl (rest := []) rfl (Nat.le_of_ble_eq_true rfl) dX4_countLetters_14 ⟨Nat.zero_le _, Nat.zero_le _⟩ (fun H locs hP hS => ?_)
  refine W.eq (g2 := F0 m 17 ls []) rfl ?_
  refine lv_iconst (v := 0) hx hb dX4_countLetters_17 (by decide) ?_
  refine lv_istore_n (lv' := [(2, .int 0), (0, .ref (xa w 13)), (1, .int x1)]) hx hb dX4_countLetters_18 rfl hl (by decide) rfl (fun ls hl => ?_)
  exact kX4_countLetters_19 X V  4096 x1 0 v15 _ _ _ hm hP hS (lv_sub hl [1, 2, 0] rfl)
def fJ7_fill_fda19_14_10  : Nat → Int32 → Int32 → Int32 → xM → Option (xM)
  | 0 => fun _ _ _ _ => none
  | n + 1 => fun x2 x3 x4 M => if x2 ≤ x4 then (some M) else (if xin x4 408 then xlt (xs1 M 14 x4.toNatClampNeg x3) fun M3 => fJ7_fill_fda19_14_10 n x2 x3 (x4 + 1) M3 else none)
theorem fJ7_fill_fda19_14_10_s  (n : Nat) (x2 : Int32) (x3 : Int32) (x4 : Int32) (M : xM) : fJ7_fill_fda19_14_10  (n + 1) x2 x3 x4 M = (if x2 ≤ x4 then (some M) else (if xin x4 408 then xlt (xs1 M 14 x4.toNatClampNeg x3) fun M3 => fJ7_fill_fda19_14_10 n x2 x3 (x4 + 1) M3 else none)) := rfl
set_option maxHeartbeats 4000000 in
set_option maxRecDepth 100000 in
theorem kJ7_fill_fda19_14_10 {p : Program} {l : Launch} {e : Env} {s : State} {m : MethodId} {args : Array Value} {below : List Frame} {meth : Method} {c : Code} {w : xT} (X : xX p s m args meth c cJ7_fill_fda19 5 none RJ7 w) (V : xM)  : ∀ (n : Nat) (x2 : Int32) (x3 : Int32) (x4 : Int32) (M : xM) (H : Heap) (locs : List Loc) (ls : Array Slot), fJ7_fill_fda19_14_10  n x2 x3 x4 M = some V → xP w M H → xS w s H locs → lv_has ls 5 [(0, .ref (xa w 14)), (2, .int x2), (3, .int x3), (4, .int x4)] → W p l e { frames := 1, cells := 0, slots := 0, locals := 22 } s m args below meth c H locs 0 0 (xQ w none V below args s) (F0 m 10 ls []) := by
  have hx := X.1
  have hb := X.2.1
  have hown := X.2.2.2.2.2.1
  have hts := X.2.2.2.2.2.2.1
  intro n
  induction n with
  | zero => intro x2 x3 x4 M H locs ls hm hP hS hl; exact xnon hm
  | succ n ih =>
    intro x2 x3 x4 M H locs ls hm hP hS hl
    rw [fJ7_fill_fda19_14_10_s] at hm
    refine lv_iload hx hb dJ7_fill_fda19_10 (lv_at hl 3 rfl) ?_
    refine lv_iload_n hx hb dJ7_fill_fda19_12 rfl (lv_at hl 1 rfl) ?_
    refine lv_icmp_ge (tgt := 27) hx hb dJ7_fill_fda19_13 (by decide) (fun c1 => ?_) (fun c1 => ?_)
    · have hm := xift c1 hm
      obtain rfl := Option.some.inj hm
      exact xvret X hP hS dJ7_fill_fda19_27
    · have hm := xiff c1 hm
      refine lv_aload_n hx hb dJ7_fill_fda19_16 rfl (lv_at hl 0 rfl) ?_
      refine lv_iload hx hb dJ7_fill_fda19_17 (lv_at hl 3 rfl) ?_
      refine lv_iload_n hx hb dJ7_fill_fda19_19 rfl (lv_at hl 2 rfl) ?_
      obtain ⟨hi2, hm⟩ := xifn hm
      refine xiast X hP hS 14 xy14 hi2 dJ7_fill_fda19_20 (fun M3 H locs eM3 hP hS => ?_)
      have hm := xltE hm eM3
      refine lv_iinc (v := x4 + 1) (lv' := [(4, .int (x4 + 1)), (0, .ref (xa w 14)), (2, .int x2), (3, .int x3)]) hx hb dJ7_fill_fda19_21 hl (k := 3) rfl rfl (by decide) rfl (fun ls hl => ?_)
      refine lv_goto (tgt := 10) hx hb dJ7_fill_fda19_24 (by decide) ?_
      exact ih x2 x3 (x4 + 1) M3 _ _ _ hm hP hS (lv_sub hl [1, 2, 3, 0] rfl)
def fJ7_fill_fda19_14 (x1 : Int32) (x2 : Int32) (x3 : Int32) (M : xM) : Option (xM) := (fJ7_rangeCheck_23922 408 x1 x2 M).bind fun v4 => fJ7_fill_fda19_14_10 4096 x2 x3 x1 M
theorem fJ7_fill_fda19_14_s (x1 : Int32) (x2 : Int32) (x3 : Int32) (M : xM) : fJ7_fill_fda19_14 x1 x2 x3 M = ((fJ7_rangeCheck_23922 408 x1 x2 M).bind fun v4 => fJ7_fill_fda19_14_10 4096 x2 x3 x1 M) := rfl
set_option maxHeartbeats 4000000 in
set_option maxRecDepth 100000 in
theorem qJ7_fill_fda19_14 (l : Launch) (w : xT) (x1 : Int32) (x2 : Int32) (x3 : Int32) (M : xM) (V : xM) (hm : fJ7_fill_fda19_14 x1 x2 x3 M = some V) : xC l yJ7_fill_fda19 (Cond.code yJ7_fill_fda19 cJ7_fill_fda19 5 none) { frames := 1, cells := 0, slots := 0, locals := 22 } w [.ref (xa w 14), .int x1, .int x2, .int x3] M none V := by
  refine xC.of (by decide) (Nat.le_of_ble_eq_true rfl) ?_
  intro p e s m args below meth c ls X hP hS hl
  have hl : lv_has ls 5 [(0, .ref (xa w 14)), (1, .int x1), (2, .int x2), (3, .int x3)] := hl
  have X : xX p s m args meth c cJ7_fill_fda19 5 none RJ7 w := X
  have hx := X.1
  have hb := X.2.1
  have hown := X.2.2.2.2.2.1
  have hts := X.2.2.2.2.2.2.1
  rw [fJ7_fill_fda19_14_s] at hm
  refine lv_aload_n hx hb dJ7_fill_fda19_0 rfl (lv_at hl 0 rfl) ?_
  refine xalen X hP 14 xy14 (v := 408) (by decide) dJ7_fill_fda19_1 ?_
  refine lv_iload_n hx hb dJ7_fill_fda19_2 rfl (lv_at hl 1 rfl) ?_
  refine lv_iload_n hx hb dJ7_fill_fda19_3 rfl (lv_at hl 2 rfl) ?_
  obtain ⟨v4, hg, hm⟩ := xbnd hm
  refine xcallS xm_J7_13 xt_J7_rangeCheck_23922 X hP hS (qJ7_rangeCheck_23922 l w 408 x1 x2 M v4 hg) ⟨Nat.le_of_ble_eq_true rfl, Nat.le_of_ble_eq_true rfl⟩ ⟨rfl, rfl⟩ hl.1 rfl (rest := []) rfl (Nat.le_of_ble_eq_true rfl) dJ7_fill_fda19_4 ⟨Nat.zero_le _, Nat.zero_le _⟩ (fun H locs hP hS => ?_)
  refine W.eq (g2 := F0 m 7 ls []) rfl ?_
  refine lv_iload_n hx hb dJ7_fill_fda19_7 rfl (lv_at hl 1 rfl) ?_
  refine lv_istore (lv' := [(4, .int x1), (0, .ref (xa w 14)), (1, .int x1), (2, .int x2), (3, .int x3)]) hx hb dJ7_fill_fda19_8 hl (by decide) rfl (fun ls hl => ?_)
  exact kJ7_fill_fda19_14_10 X V  4096 x2 x3 x1 M _ _ _ hm hP hS (lv_sub hl [1, 3, 4, 0] rfl)
def fX4_putLast (x1 : Int32) (x2 : Int32) (M : xM) : Option (xM) := if xin x1 11 then if xin ((M 18 x1.toNatClampNeg) + x2) 816 then xlt (M 15 ((M 18 x1.toNatClampNeg) + x2).toNatClampNeg) fun y3 => if xin y3 1008 then xlt ((M 24 y3.toNatClampNeg) - 1) fun y5 => if y5 < 0 then (some M) else (if xin y5 408 then xlt (xs1 M 14 y5.toNatClampNeg x2) fun M8 => if xin y3 1008 then xlt (xs1 M8 24 y3.toNatClampNeg y5) fun M10 => some M10 else none else none) else none else none else none
theorem fX4_putLast_s (x1 : Int32) (x2 : Int32) (M : xM) : fX4_putLast x1 x2 M = (if xin x1 11 then if xin ((M 18 x1.toNatClampNeg) + x2) 816 then xlt (M 15 ((M 18 x1.toNatClampNeg) + x2).toNatClampNeg) fun y3 => if xin y3 1008 then xlt ((M 24 y3.toNatClampNeg) - 1) fun y5 => if y5 < 0 then (some M) else (if xin y5 408 then xlt (xs1 M 14 y5.toNatClampNeg x2) fun M8 => if xin y3 1008 then xlt (xs1 M8 24 y3.toNatClampNeg y5) fun M10 => some M10 else none else none) else none else none else none) := rfl
set_option maxHeartbeats 4000000 in
set_option maxRecDepth 100000 in
theorem qX4_putLast (l : Launch) (w : xT) (x1 : Int32) (x2 : Int32) (M : xM) (V : xM) (hm : fX4_putLast x1 x2 M = some V) : xC l yX4_putLast (Cond.code yX4_putLast cX4_putLast 5 none) { frames := 0, cells := 0, slots := 0, locals := 0 } w [.ref (xa w 13), .int x1, .int x2] M none V := by
  refine xC.of (by decide) (Nat.le_of_ble_eq_true rfl) ?_
  intro p e s m args below meth c ls X hP hS hl
  have hl : lv_has ls 5 [(0, .ref (xa w 13)), (1, .int x1), (2, .int x2)] := hl
  have X : xX p s m args meth c cX4_putLast 5 none RX4 w := X
  have hx := X.1
  have hb := X.2.1
  have hown := X.2.2.2.2.2.1
  have hts := X.2.2.2.2.2.2.1
  rw [fX4_putLast_s] at hm
  refine lv_aload_n hx hb dX4_putLast_0 rfl (lv_at hl 0 rfl) ?_
  refine xget xcX4 X hP 13 1 xy13 (by decide) xf_X4_15 rfl dX4_putLast_1 ?_
  refine lv_aload_n hx hb dX4_putLast_4 rfl (lv_at hl 0 rfl) ?_
  refine xget xcX4 X hP 13 4 xy13 (by decide) xf_X4_25 rfl dX4_putLast_5 ?_
  refine lv_iload_n hx hb dX4_putLast_8 rfl (lv_at hl 1 rfl) ?_
  obtain ⟨hi1, hm⟩ := xifn hm
  refine xiald X hP 18 xy18 hi1 dX4_putLast_9 ?_
  refine lv_iload_n hx hb dX4_putLast_10 rfl (lv_at hl 2 rfl) ?_
  refine lv_iadd hx hb dX4_putLast_11 ?_
  obtain ⟨hi2, hm⟩ := xifn hm
  refine xiald X hP 15 xy15 hi2 dX4_putLast_12 ?_
  refine lv_topi (fun y3 ey3 => ?_)
  have hm := xltE hm ey3
  refine lv_istore_n (lv' := [(3, .int y3), (0, .ref (xa w 13)), (1, .int x1), (2, .int x2)]) hx hb dX4_putLast_13 rfl hl (by decide) rfl (fun ls hl => ?_)
  refine lv_aload_n hx hb dX4_putLast_14 rfl (lv_at hl 1 rfl) ?_
  refine xget xcX4 X hP 13 10 xy13 (by decide) xf_X4_43 rfl dX4_putLast_15 ?_
  refine lv_iload_n hx hb dX4_putLast_18 rfl (lv_at hl 0 rfl) ?_
  obtain ⟨hi4, hm⟩ := xifn hm
  refine xiald X hP 24 xy24 hi4 dX4_putLast_19 ?_
  refine lv_iconst (v := 1) hx hb dX4_putLast_20 (by decide) ?_
  refine lv_isub hx hb dX4_putLast_21 ?_
  refine lv_topi (fun y5 ey5 => ?_)
  have hm := xltE hm ey5
  refine lv_istore (lv' := [(4, .int y5), (3, .int y3), (0, .ref (xa w 13)), (1, .int x1), (2, .int x2)]) hx hb dX4_putLast_22 hl (by decide) rfl (fun ls hl => ?_)
  refine lv_iload hx hb dX4_putLast_24 (lv_at hl 0 rfl) ?_
  refine lv_if_lt (tgt := 45) hx hb dX4_putLast_26 (by decide) (fun c6 => ?_) (fun c6 => ?_)
  · have hm := xift c6 hm
    obtain rfl := Option.some.inj hm
    exact xvret X hP hS dX4_putLast_45
  · have hm := xiff c6 hm
    refine lv_aload_n hx hb dX4_putLast_29 rfl (lv_at hl 2 rfl) ?_
    refine xget xcX4 X hP 13 0 xy13 (by decide) xf_X4_9 rfl dX4_putLast_30 ?_
    refine lv_iload hx hb dX4_putLast_33 (lv_at hl 0 rfl) ?_
    refine lv_iload_n hx hb dX4_putLast_35 rfl (lv_at hl 4 rfl) ?_
    obtain ⟨hi7, hm⟩ := xifn hm
    refine xiast X hP hS 14 xy14 hi7 dX4_putLast_36 (fun M8 H locs eM8 hP hS => ?_)
    have hm := xltE hm eM8
    refine lv_aload_n hx hb dX4_putLast_37 rfl (lv_at hl 2 rfl) ?_
    refine xget xcX4 X hP 13 10 xy13 (by decide) xf_X4_43 rfl dX4_putLast_38 ?_
    refine lv_iload_n hx hb dX4_putLast_41 rfl (lv_at hl 1 rfl) ?_
    refine lv_iload hx hb dX4_putLast_42 (lv_at hl 0 rfl) ?_
    obtain ⟨hi9, hm⟩ := xifn hm
    refine xiast X hP hS 24 xy24 hi9 dX4_putLast_44 (fun M10 H locs eM10 hP hS => ?_)
    have hm := xltE hm eM10
    obtain rfl := Option.some.inj hm
    exact xvret X hP hS dX4_putLast_45
def fX4_putSeeds_23  : Nat → Int32 → Int32 → xM → Option (xM)
  | 0 => fun _ _ _ => none
  | n + 1 => fun x1 x3 M => if x3 < 0 then (some M) else (if xin x3 408 then (fX4_putLast x1 (M 21 x3.toNatClampNeg) M).bind fun v3 => fX4_putSeeds_23 n x1 (x3 + (-1)) v3 else none)
theorem fX4_putSeeds_23_s  (n : Nat) (x1 : Int32) (x3 : Int32) (M : xM) : fX4_putSeeds_23  (n + 1) x1 x3 M = (if x3 < 0 then (some M) else (if xin x3 408 then (fX4_putLast x1 (M 21 x3.toNatClampNeg) M).bind fun v3 => fX4_putSeeds_23 n x1 (x3 + (-1)) v3 else none)) := rfl
set_option maxHeartbeats 4000000 in
set_option maxRecDepth 100000 in
theorem kX4_putSeeds_23 {p : Program} {l : Launch} {e : Env} {s : State} {m : MethodId} {args : Array Value} {below : List Frame} {meth : Method} {c : Code} {w : xT} (X : xX p s m args meth c cX4_putSeeds 4 none RX4 w) (V : xM)  : ∀ (n : Nat) (x1 : Int32) (x3 : Int32) (M : xM) (H : Heap) (locs : List Loc) (ls : Array Slot), fX4_putSeeds_23  n x1 x3 M = some V → xP w M H → xS w s H locs → lv_has ls 4 [(0, .ref (xa w 13)), (1, .int x1), (3, .int x3)] → W p l e { frames := 1, cells := 0, slots := 0, locals := 40 } s m args below meth c H locs 0 0 (xQ w none V below args s) (F0 m 23 ls []) := by
  have hx := X.1
  have hb := X.2.1
  have hown := X.2.2.2.2.2.1
  have hts := X.2.2.2.2.2.2.1
  intro n
  induction n with
  | zero => intro x1 x3 M H locs ls hm hP hS hl; exact xnon hm
  | succ n ih =>
    intro x1 x3 M H locs ls hm hP hS hl
    rw [fX4_putSeeds_23_s] at hm
    refine lv_iload_n hx hb dX4_putSeeds_23 rfl (lv_at hl 2 rfl) ?_
    refine lv_if_lt (tgt := 44) hx hb dX4_putSeeds_24 (by decide) (fun c1 => ?_) (fun c1 => ?_)
    · have hm := xift c1 hm
      obtain rfl := Option.some.inj hm
      exact xvret X hP hS dX4_putSeeds_44
    · have hm := xiff c1 hm
      refine lv_aload_n hx hb dX4_putSeeds_27 rfl (lv_at hl 0 rfl) ?_
      refine lv_iload_n hx hb dX4_putSeeds_28 rfl (lv_at hl 1 rfl) ?_
      refine lv_aload_n hx hb dX4_putSeeds_29 rfl (lv_at hl 0 rfl) ?_
      refine xget xcX4 X hP 13 7 xy13 (by decide) xf_X4_34 rfl dX4_putSeeds_30 ?_
      refine lv_iload_n hx hb dX4_putSeeds_33 rfl (lv_at hl 2 rfl) ?_
      obtain ⟨hi2, hm⟩ := xifn hm
      refine xiald X hP 21 xy21 hi2 dX4_putSeeds_34 ?_
      obtain ⟨v3, hg, hm⟩ := xbnd hm
      refine xcallV xm_X4_103 xt_X4_putLast X hP hS (qX4_putLast l w x1 (M 21 x3.toNatClampNeg) M v3 hg) xy13 rfl ⟨Nat.le_of_ble_eq_true rfl, Nat.le_of_ble_eq_true rfl⟩ ⟨rfl, rfl⟩ hl.1 rfl (rest := []) rfl (Nat.le_of_ble_eq_true rfl) dX4_putSeeds_35 ⟨Nat.zero_le _, Nat.zero_le _⟩ (fun H locs hP hS => ?_)
      refine W.eq (g2 := F0 m 38 ls []) rfl ?_
      refine lv_iinc (v := x3 + (-1)) (lv' := [(3, .int (x3 + (-1))), (0, .ref (xa w 13)), (1, .int x1)]) hx hb dX4_putSeeds_38 hl (k := 2) rfl rfl (by decide) rfl (fun ls hl => ?_)
      refine lv_goto (tgt := 23) hx hb dX4_putSeeds_41 (by decide) ?_
      exact ih x1 (x3 + (-1)) v3 _ _ _ hm hP hS (lv_sub hl [1, 2, 0] rfl)
def fX4_putSeeds (x1 : Int32) (x2 : Int32) (M : xM) : Option (xM) := if xin x1 11 then if xcin 1 0 (M 20 x1.toNatClampNeg) 1009 1008 then xlt (xcp M 23 24 1 0 (M 20 x1.toNatClampNeg)) fun M6 => fX4_putSeeds_23 4096 x1 (x2 - 1) M6 else none else none
theorem fX4_putSeeds_s (x1 : Int32) (x2 : Int32) (M : xM) : fX4_putSeeds x1 x2 M = (if xin x1 11 then if xcin 1 0 (M 20 x1.toNatClampNeg) 1009 1008 then xlt (xcp M 23 24 1 0 (M 20 x1.toNatClampNeg)) fun M6 => fX4_putSeeds_23 4096 x1 (x2 - 1) M6 else none else none) := rfl
set_option maxHeartbeats 4000000 in
set_option maxRecDepth 100000 in
theorem qX4_putSeeds (l : Launch) (w : xT) (x1 : Int32) (x2 : Int32) (M : xM) (V : xM) (hm : fX4_putSeeds x1 x2 M = some V) : xC l yX4_putSeeds (Cond.code yX4_putSeeds cX4_putSeeds 4 none) { frames := 1, cells := 0, slots := 0, locals := 40 } w [.ref (xa w 13), .int x1, .int x2] M none V := by
  refine xC.of (by decide) (Nat.le_of_ble_eq_true rfl) ?_
  intro p e s m args below meth c ls X hP hS hl
  have hl : lv_has ls 4 [(0, .ref (xa w 13)), (1, .int x1), (2, .int x2)] := hl
  have X : xX p s m args meth c cX4_putSeeds 4 none RX4 w := X
  have hx := X.1
  have hb := X.2.1
  have hown := X.2.2.2.2.2.1
  have hts := X.2.2.2.2.2.2.1
  rw [fX4_putSeeds_s] at hm
  refine lv_aload_n hx hb dX4_putSeeds_0 rfl (lv_at hl 0 rfl) ?_
  refine xget xcX4 X hP 13 9 xy13 (by decide) xf_X4_40 rfl dX4_putSeeds_1 ?_
  refine lv_iconst (v := 1) hx hb dX4_putSeeds_4 (by decide) ?_
  refine lv_aload_n hx hb dX4_putSeeds_5 rfl (lv_at hl 0 rfl) ?_
  refine xget xcX4 X hP 13 10 xy13 (by decide) xf_X4_43 rfl dX4_putSeeds_6 ?_
  refine lv_iconst (v := 0) hx hb dX4_putSeeds_9 (by decide) ?_
  refine lv_aload_n hx hb dX4_putSeeds_10 rfl (lv_at hl 0 rfl) ?_
  refine xget xcX4 X hP 13 6 xy13 (by decide) xf_X4_31 rfl dX4_putSeeds_11 ?_
  refine lv_iload_n hx hb dX4_putSeeds_14 rfl (lv_at hl 1 rfl) ?_
  obtain ⟨hi4, hm⟩ := xifn hm
  refine xiald X hP 20 xy20 hi4 dX4_putSeeds_15 ?_
  obtain ⟨hi5, hm⟩ := xifn hm
  refine xcopy xm_X4_46 xac1 xac2 xac3 X hP hS 23 24 xy23 xy24 hi5 hl.1 (by decide) (by decide) dX4_putSeeds_16 (fun M6 H locs eM6 hP hS => ?_)
  have hm := xltE hm eM6
  refine lv_iload_n hx hb dX4_putSeeds_19 rfl (lv_at hl 2 rfl) ?_
  refine lv_iconst (v := 1) hx hb dX4_putSeeds_20 (by decide) ?_
  refine lv_isub hx hb dX4_putSeeds_21 ?_
  refine lv_istore_n (lv' := [(3, .int (x2 - 1)), (0, .ref (xa w 13)), (1, .int x1), (2, .int x2)]) hx hb dX4_putSeeds_22 rfl hl (by decide) rfl (fun ls hl => ?_)
  exact kX4_putSeeds_23 X V  4096 x1 (x2 - 1) M6 _ _ _ hm hP hS (lv_sub hl [1, 2, 0] rfl)
def fX4_putFirst (x1 : Int32) (x2 : Int32) (M : xM) : Option (xM) := if xin x1 11 then if xin ((M 18 x1.toNatClampNeg) + x2) 816 then xlt (M 15 ((M 18 x1.toNatClampNeg) + x2).toNatClampNeg) fun y3 => if xin y3 1008 then if 408 ≤ (M 24 y3.toNatClampNeg) then (some M) else (if xin (M 24 y3.toNatClampNeg) 408 then xlt (xs1 M 14 (M 24 y3.toNatClampNeg).toNatClampNeg x2) fun M7 => if xin y3 1008 then xlt (xs1 M7 24 y3.toNatClampNeg ((M 24 y3.toNatClampNeg) + 1)) fun M9 => some M9 else none else none) else none else none else none
theorem fX4_putFirst_s (x1 : Int32) (x2 : Int32) (M : xM) : fX4_putFirst x1 x2 M = (if xin x1 11 then if xin ((M 18 x1.toNatClampNeg) + x2) 816 then xlt (M 15 ((M 18 x1.toNatClampNeg) + x2).toNatClampNeg) fun y3 => if xin y3 1008 then if 408 ≤ (M 24 y3.toNatClampNeg) then (some M) else (if xin (M 24 y3.toNatClampNeg) 408 then xlt (xs1 M 14 (M 24 y3.toNatClampNeg).toNatClampNeg x2) fun M7 => if xin y3 1008 then xlt (xs1 M7 24 y3.toNatClampNeg ((M 24 y3.toNatClampNeg) + 1)) fun M9 => some M9 else none else none) else none else none else none) := rfl
set_option maxHeartbeats 4000000 in
set_option maxRecDepth 100000 in
theorem qX4_putFirst (l : Launch) (w : xT) (x1 : Int32) (x2 : Int32) (M : xM) (V : xM) (hm : fX4_putFirst x1 x2 M = some V) : xC l yX4_putFirst (Cond.code yX4_putFirst cX4_putFirst 5 none) { frames := 0, cells := 0, slots := 0, locals := 0 } w [.ref (xa w 13), .int x1, .int x2] M none V := by
  refine xC.of (by decide) (Nat.le_of_ble_eq_true rfl) ?_
  intro p e s m args below meth c ls X hP hS hl
  have hl : lv_has ls 5 [(0, .ref (xa w 13)), (1, .int x1), (2, .int x2)] := hl
  have X : xX p s m args meth c cX4_putFirst 5 none RX4 w := X
  have hx := X.1
  have hb := X.2.1
  have hown := X.2.2.2.2.2.1
  have hts := X.2.2.2.2.2.2.1
  rw [fX4_putFirst_s] at hm
  refine lv_aload_n hx hb dX4_putFirst_0 rfl (lv_at hl 0 rfl) ?_
  refine xget xcX4 X hP 13 1 xy13 (by decide) xf_X4_15 rfl dX4_putFirst_1 ?_
  refine lv_aload_n hx hb dX4_putFirst_4 rfl (lv_at hl 0 rfl) ?_
  refine xget xcX4 X hP 13 4 xy13 (by decide) xf_X4_25 rfl dX4_putFirst_5 ?_
  refine lv_iload_n hx hb dX4_putFirst_8 rfl (lv_at hl 1 rfl) ?_
  obtain ⟨hi1, hm⟩ := xifn hm
  refine xiald X hP 18 xy18 hi1 dX4_putFirst_9 ?_
  refine lv_iload_n hx hb dX4_putFirst_10 rfl (lv_at hl 2 rfl) ?_
  refine lv_iadd hx hb dX4_putFirst_11 ?_
  obtain ⟨hi2, hm⟩ := xifn hm
  refine xiald X hP 15 xy15 hi2 dX4_putFirst_12 ?_
  refine lv_topi (fun y3 ey3 => ?_)
  have hm := xltE hm ey3
  refine lv_istore_n (lv' := [(3, .int y3), (0, .ref (xa w 13)), (1, .int x1), (2, .int x2)]) hx hb dX4_putFirst_13 rfl hl (by decide) rfl (fun ls hl => ?_)
  refine lv_aload_n hx hb dX4_putFirst_14 rfl (lv_at hl 1 rfl) ?_
  refine xget xcX4 X hP 13 10 xy13 (by decide) xf_X4_43 rfl dX4_putFirst_15 ?_
  refine lv_iload_n hx hb dX4_putFirst_18 rfl (lv_at hl 0 rfl) ?_
  obtain ⟨hi4, hm⟩ := xifn hm
  refine xiald X hP 24 xy24 hi4 dX4_putFirst_19 ?_
  refine lv_istore (lv' := [(4, .int (M 24 y3.toNatClampNeg)), (3, .int y3), (0, .ref (xa w 13)), (1, .int x1), (2, .int x2)]) hx hb dX4_putFirst_20 hl (by decide) rfl (fun ls hl => ?_)
  refine lv_iload hx hb dX4_putFirst_22 (lv_at hl 0 rfl) ?_
  refine lv_aload_n hx hb dX4_putFirst_24 rfl (lv_at hl 2 rfl) ?_
  refine xget xcX4 X hP 13 0 xy13 (by decide) xf_X4_9 rfl dX4_putFirst_25 ?_
  refine xalen X hP 14 xy14 (v := 408) (by decide) dX4_putFirst_28 ?_
  refine lv_icmp_ge (tgt := 50) hx hb dX4_putFirst_29 (by decide) (fun c5 => ?_) (fun c5 => ?_)
  · have hm := xift c5 hm
    obtain rfl := Option.some.inj hm
    exact xvret X hP hS dX4_putFirst_50
  · have hm := xiff c5 hm
    refine lv_aload_n hx hb dX4_putFirst_32 rfl (lv_at hl 2 rfl) ?_
    refine xget xcX4 X hP 13 0 xy13 (by decide) xf_X4_9 rfl dX4_putFirst_33 ?_
    refine lv_iload hx hb dX4_putFirst_36 (lv_at hl 0 rfl) ?_
    refine lv_iload_n hx hb dX4_putFirst_38 rfl (lv_at hl 4 rfl) ?_
    obtain ⟨hi6, hm⟩ := xifn hm
    refine xiast X hP hS 14 xy14 hi6 dX4_putFirst_39 (fun M7 H locs eM7 hP hS => ?_)
    have hm := xltE hm eM7
    refine lv_aload_n hx hb dX4_putFirst_40 rfl (lv_at hl 2 rfl) ?_
    refine xget xcX4 X hP 13 10 xy13 (by decide) xf_X4_43 rfl dX4_putFirst_41 ?_
    refine lv_iload_n hx hb dX4_putFirst_44 rfl (lv_at hl 1 rfl) ?_
    refine lv_iload hx hb dX4_putFirst_45 (lv_at hl 0 rfl) ?_
    refine lv_iconst (v := 1) hx hb dX4_putFirst_47 (by decide) ?_
    refine lv_iadd hx hb dX4_putFirst_48 ?_
    obtain ⟨hi8, hm⟩ := xifn hm
    refine xiast X hP hS 24 xy24 hi8 dX4_putFirst_49 (fun M9 H locs eM9 hP hS => ?_)
    have hm := xltE hm eM9
    obtain rfl := Option.some.inj hm
    exact xvret X hP hS dX4_putFirst_50
def fX4_induceFalling_88 (k43 : Int32 → Int32 → xM → Option (xM)) (x1 : Int32) (x2 : Int32) (M : xM) : Option (xM) := k43 x1 (x2 + 1) M
theorem fX4_induceFalling_88_s (k43 : Int32 → Int32 → xM → Option (xM)) (x1 : Int32) (x2 : Int32) (M : xM) : fX4_induceFalling_88 k43 x1 x2 M = (k43 x1 (x2 + 1) M) := rfl
set_option maxHeartbeats 4000000 in
set_option maxRecDepth 100000 in
theorem kX4_induceFalling_88 {p : Program} {l : Launch} {e : Env} {s : State} {m : MethodId} {args : Array Value} {below : List Frame} {meth : Method} {c : Code} {w : xT} (X : xX p s m args meth c cX4_induceFalling 4 none RX4 w) (V : xM) (k43 : Int32 → Int32 → xM → Option (xM)) (hk43 : ∀ (x1 : Int32) (x2 : Int32) (M : xM) (H : Heap) (locs : List Loc) (ls : Array Slot), k43 x1 x2 M = some V → xP w M H → xS w s H locs → lv_has ls 4 [(0, .ref (xa w 13)), (1, .int x1), (2, .int x2)] → W p l e { frames := 1, cells := 0, slots := 0, locals := 40 } s m args below meth c H locs 0 0 (xQ w none V below args s) (F0 m 43 ls [])) : ∀ (x1 : Int32) (x2 : Int32) (M : xM) (H : Heap) (locs : List Loc) (ls : Array Slot), fX4_induceFalling_88 k43 x1 x2 M = some V → xP w M H → xS w s H locs → lv_has ls 4 [(0, .ref (xa w 13)), (1, .int x1), (2, .int x2)] → W p l e { frames := 1, cells := 0, slots := 0, locals := 40 } s m args below meth c H locs 0 0 (xQ w none V below args s) (F0 m 88 ls []) := by
  have hx := X.1
  have hb := X.2.1
  have hown := X.2.2.2.2.2.1
  have hts := X.2.2.2.2.2.2.1
  intro x1 x2 M H locs ls hm hP hS hl
  rw [fX4_induceFalling_88_s] at hm
  refine lv_iinc (v := x2 + 1) (lv' := [(2, .int (x2 + 1)), (0, .ref (xa w 13)), (1, .int x1)]) hx hb dX4_induceFalling_88 hl (k := 2) rfl rfl (by decide) rfl (fun ls hl => ?_)
  refine lv_goto (tgt := 43) hx hb dX4_induceFalling_91 (by decide) ?_
  exact hk43 x1 (x2 + 1) M _ _ _ hm hP hS (lv_sub hl [1, 2, 0] rfl)
def fX4_induceFalling_43  : Nat → Int32 → Int32 → xM → Option (xM)
  | 0 => fun _ _ _ => none
  | n + 1 => fun x1 x2 M => if xin x1 11 then if (M 19 x1.toNatClampNeg) ≤ x2 then (some M) else (if xin x2 408 then xlt ((M 14 x2.toNatClampNeg) - 1) fun y4 => if y4 < 0 then (fX4_induceFalling_88 (fX4_induceFalling_43 n) x1 x2 M) else (if xin x1 11 then if xin ((M 18 x1.toNatClampNeg) + y4) 816 then if (M 16 ((M 18 x1.toNatClampNeg) + y4).toNatClampNeg) = 0 then ((fX4_putFirst x1 y4 M).bind fun v9 => fX4_induceFalling_88 (fX4_induceFalling_43 n) x1 x2 v9) else (fX4_induceFalling_88 (fX4_induceFalling_43 n) x1 x2 M) else none else none) else none) else none
theorem fX4_induceFalling_43_s  (n : Nat) (x1 : Int32) (x2 : Int32) (M : xM) : fX4_induceFalling_43  (n + 1) x1 x2 M = (if xin x1 11 then if (M 19 x1.toNatClampNeg) ≤ x2 then (some M) else (if xin x2 408 then xlt ((M 14 x2.toNatClampNeg) - 1) fun y4 => if y4 < 0 then (fX4_induceFalling_88 (fX4_induceFalling_43 n) x1 x2 M) else (if xin x1 11 then if xin ((M 18 x1.toNatClampNeg) + y4) 816 then if (M 16 ((M 18 x1.toNatClampNeg) + y4).toNatClampNeg) = 0 then ((fX4_putFirst x1 y4 M).bind fun v9 => fX4_induceFalling_88 (fX4_induceFalling_43 n) x1 x2 v9) else (fX4_induceFalling_88 (fX4_induceFalling_43 n) x1 x2 M) else none else none) else none) else none) := rfl
set_option maxHeartbeats 4000000 in
set_option maxRecDepth 100000 in
theorem kX4_induceFalling_43 {p : Program} {l : Launch} {e : Env} {s : State} {m : MethodId} {args : Array Value} {below : List Frame} {meth : Method} {c : Code} {w : xT} (X : xX p s m args meth c cX4_induceFalling 4 none RX4 w) (V : xM)  : ∀ (n : Nat) (x1 : Int32) (x2 : Int32) (M : xM) (H : Heap) (locs : List Loc) (ls : Array Slot), fX4_induceFalling_43  n x1 x2 M = some V → xP w M H → xS w s H locs → lv_has ls 4 [(0, .ref (xa w 13)), (1, .int x1), (2, .int x2)] → W p l e { frames := 1, cells := 0, slots := 0, locals := 40 } s m args below meth c H locs 0 0 (xQ w none V below args s) (F0 m 43 ls []) := by
  have hx := X.1
  have hb := X.2.1
  have hown := X.2.2.2.2.2.1
  have hts := X.2.2.2.2.2.2.1
  intro n
  induction n with
  | zero => intro x1 x2 M H locs ls hm hP hS hl; exact xnon hm
  | succ n ih =>
    intro x1 x2 M H locs ls hm hP hS hl
    rw [fX4_induceFalling_43_s] at hm
    refine lv_iload_n hx hb dX4_induceFalling_43 rfl (lv_at hl 2 rfl) ?_
    refine lv_aload_n hx hb dX4_induceFalling_44 rfl (lv_at hl 0 rfl) ?_
    refine xget xcX4 X hP 13 5 xy13 (by decide) xf_X4_28 rfl dX4_induceFalling_45 ?_
    refine lv_iload_n hx hb dX4_induceFalling_48 rfl (lv_at hl 1 rfl) ?_
    obtain ⟨hi1, hm⟩ := xifn hm
    refine xiald X hP 19 xy19 hi1 dX4_induceFalling_49 ?_
    refine lv_icmp_ge (tgt := 94) hx hb dX4_induceFalling_50 (by decide) (fun c2 => ?_) (fun c2 => ?_)
    · have hm := xift c2 hm
      obtain rfl := Option.some.inj hm
      exact xvret X hP hS dX4_induceFalling_94
    · have hm := xiff c2 hm
      refine lv_aload_n hx hb dX4_induceFalling_53 rfl (lv_at hl 0 rfl) ?_
      refine xget xcX4 X hP 13 0 xy13 (by decide) xf_X4_9 rfl dX4_induceFalling_54 ?_
      refine lv_iload_n hx hb dX4_induceFalling_57 rfl (lv_at hl 2 rfl) ?_
      obtain ⟨hi3, hm⟩ := xifn hm
      refine xiald X hP 14 xy14 hi3 dX4_induceFalling_58 ?_
      refine lv_iconst (v := 1) hx hb dX4_induceFalling_59 (by decide) ?_
      refine lv_isub hx hb dX4_induceFalling_60 ?_
      refine lv_topi (fun y4 ey4 => ?_)
      have hm := xltE hm ey4
      refine lv_istore_n (lv' := [(3, .int y4), (0, .ref (xa w 13)), (1, .int x1), (2, .int x2)]) hx hb dX4_induceFalling_61 rfl hl (by decide) rfl (fun ls hl => ?_)
      refine lv_iload_n hx hb dX4_induceFalling_62 rfl (lv_at hl 0 rfl) ?_
      refine lv_if_lt (tgt := 88) hx hb dX4_induceFalling_63 (by decide) (fun c5 => ?_) (fun c5 => ?_)
      · have hm := xift c5 hm
        exact kX4_induceFalling_88 X V (fX4_induceFalling_43 n) ih x1 x2 M _ _ _ hm hP hS (lv_sub hl [1, 2, 3] rfl)
      · have hm := xiff c5 hm
        refine lv_aload_n hx hb dX4_induceFalling_66 rfl (lv_at hl 1 rfl) ?_
        refine xget xcX4 X hP 13 2 xy13 (by decide) xf_X4_18 rfl dX4_induceFalling_67 ?_
        refine lv_aload_n hx hb dX4_induceFalling_70 rfl (lv_at hl 1 rfl) ?_
        refine xget xcX4 X hP 13 4 xy13 (by decide) xf_X4_25 rfl dX4_induceFalling_71 ?_
        refine lv_iload_n hx hb dX4_induceFalling_74 rfl (lv_at hl 2 rfl) ?_
        obtain ⟨hi6, hm⟩ := xifn hm
        refine xiald X hP 18 xy18 hi6 dX4_induceFalling_75 ?_
        refine lv_iload_n hx hb dX4_induceFalling_76 rfl (lv_at hl 0 rfl) ?_
        refine lv_iadd hx hb dX4_induceFalling_77 ?_
        obtain ⟨hi7, hm⟩ := xifn hm
        refine xzald X hP 16 xy16 hi7 dX4_induceFalling_78 ?_
        refine lv_if_ne (tgt := 88) hx hb dX4_induceFalling_79 (by decide) (fun c8 => ?_) (fun c8 => ?_)
        · have hm := xiff c8 hm
          exact kX4_induceFalling_88 X V (fX4_induceFalling_43 n) ih x1 x2 M _ _ _ hm hP hS (lv_sub hl [1, 2, 3] rfl)
        · have hm := xift c8 hm
          refine lv_aload_n hx hb dX4_induceFalling_82 rfl (lv_at hl 1 rfl) ?_
          refine lv_iload_n hx hb dX4_induceFalling_83 rfl (lv_at hl 2 rfl) ?_
          refine lv_iload_n hx hb dX4_induceFalling_84 rfl (lv_at hl 0 rfl) ?_
          obtain ⟨v9, hg, hm⟩ := xbnd hm
          refine xcallV xm_X4_106 xt_X4_putFirst X hP hS (qX4_putFirst l w x1 y4 M v9 hg) xy13 rfl ⟨Nat.le_of_ble_eq_true rfl, Nat.le_of_ble_eq_true rfl⟩ ⟨rfl, rfl⟩ hl.1 rfl (rest := []) rfl (Nat.le_of_ble_eq_true rfl) dX4_induceFalling_85 ⟨Nat.zero_le _, Nat.zero_le _⟩ (fun H locs hP hS => ?_)
          refine W.eq (g2 := F0 m 88 ls []) rfl ?_
          exact kX4_induceFalling_88 X V (fX4_induceFalling_43 n) ih x1 x2 v9 _ _ _ hm hP hS (lv_sub hl [1, 2, 3] rfl)
def fX4_induceFalling_41  (x1 : Int32) (M : xM) : Option (xM) := fX4_induceFalling_43 4096 x1 0 M
theorem fX4_induceFalling_41_s  (x1 : Int32) (M : xM) : fX4_induceFalling_41  x1 M = (fX4_induceFalling_43 4096 x1 0 M) := rfl
set_option maxHeartbeats 4000000 in
set_option maxRecDepth 100000 in
theorem kX4_induceFalling_41 {p : Program} {l : Launch} {e : Env} {s : State} {m : MethodId} {args : Array Value} {below : List Frame} {meth : Method} {c : Code} {w : xT} (X : xX p s m args meth c cX4_induceFalling 4 none RX4 w) (V : xM)  : ∀ (x1 : Int32) (M : xM) (H : Heap) (locs : List Loc) (ls : Array Slot), fX4_induceFalling_41  x1 M = some V → xP w M H → xS w s H locs → lv_has ls 4 [(0, .ref (xa w 13)), (1, .int x1)] → W p l e { frames := 1, cells := 0, slots := 0, locals := 40 } s m args below meth c H locs 0 0 (xQ w none V below args s) (F0 m 41 ls []) := by
  have hx := X.1
  have hb := X.2.1
  have hown := X.2.2.2.2.2.1
  have hts := X.2.2.2.2.2.2.1
  intro x1 M H locs ls hm hP hS hl
  rw [fX4_induceFalling_41_s] at hm
  refine lv_iconst (v := 0) hx hb dX4_induceFalling_41 (by decide) ?_
  refine lv_istore_n (lv' := [(2, .int 0), (0, .ref (xa w 13)), (1, .int x1)]) hx hb dX4_induceFalling_42 rfl hl (by decide) rfl (fun ls hl => ?_)
  exact kX4_induceFalling_43 X V  4096 x1 0 M _ _ _ hm hP hS (lv_sub hl [1, 2, 0] rfl)
def fX4_induceFalling (x1 : Int32) (M : xM) : Option (xM) := if xin x1 11 then if xcin 0 0 (M 20 x1.toNatClampNeg) 1009 1008 then xlt (xcp M 23 24 0 0 (M 20 x1.toNatClampNeg)) fun M12 => if xin x1 11 then if (M12 19 x1.toNatClampNeg) ≤ 0 then (fX4_induceFalling_41 x1 M12) else (if xin x1 11 then (fX4_putFirst x1 ((M12 19 x1.toNatClampNeg) - 1) M12).bind fun v16 => fX4_induceFalling_41 x1 v16 else none) else none else none else none
theorem fX4_induceFalling_s (x1 : Int32) (M : xM) : fX4_induceFalling x1 M = (if xin x1 11 then if xcin 0 0 (M 20 x1.toNatClampNeg) 1009 1008 then xlt (xcp M 23 24 0 0 (M 20 x1.toNatClampNeg)) fun M12 => if xin x1 11 then if (M12 19 x1.toNatClampNeg) ≤ 0 then (fX4_induceFalling_41 x1 M12) else (if xin x1 11 then (fX4_putFirst x1 ((M12 19 x1.toNatClampNeg) - 1) M12).bind fun v16 => fX4_induceFalling_41 x1 v16 else none) else none else none else none) := rfl
set_option maxHeartbeats 4000000 in
set_option maxRecDepth 100000 in
theorem qX4_induceFalling (l : Launch) (w : xT) (x1 : Int32) (M : xM) (V : xM) (hm : fX4_induceFalling x1 M = some V) : xC l yX4_induceFalling (Cond.code yX4_induceFalling cX4_induceFalling 4 none) { frames := 1, cells := 0, slots := 0, locals := 40 } w [.ref (xa w 13), .int x1] M none V := by
  refine xC.of (by decide) (Nat.le_of_ble_eq_true rfl) ?_
  intro p e s m args below meth c ls X hP hS hl
  have hl : lv_has ls 4 [(0, .ref (xa w 13)), (1, .int x1)] := hl
  have X : xX p s m args meth c cX4_induceFalling 4 none RX4 w := X
  have hx := X.1
  have hb := X.2.1
  have hown := X.2.2.2.2.2.1
  have hts := X.2.2.2.2.2.2.1
  rw [fX4_induceFalling_s] at hm
  refine lv_aload_n hx hb dX4_induceFalling_0 rfl (lv_at hl 0 rfl) ?_
  refine xget xcX4 X hP 13 9 xy13 (by decide) xf_X4_40 rfl dX4_induceFalling_1 ?_
  refine lv_iconst (v := 0) hx hb dX4_induceFalling_4 (by decide) ?_
  refine lv_aload_n hx hb dX4_induceFalling_5 rfl (lv_at hl 0 rfl) ?_
  refine xget xcX4 X hP 13 10 xy13 (by decide) xf_X4_43 rfl dX4_induceFalling_6 ?_
  refine lv_iconst (v := 0) hx hb dX4_induceFalling_9 (by decide) ?_
  refine lv_aload_n hx hb dX4_induceFalling_10 rfl (lv_at hl 0 rfl) ?_
  refine xget xcX4 X hP 13 6 xy13 (by decide) xf_X4_31 rfl dX4_induceFalling_11 ?_
  refine lv_iload_n hx hb dX4_induceFalling_14 rfl (lv_at hl 1 rfl) ?_
  obtain ⟨hi10, hm⟩ := xifn hm
  refine xiald X hP 20 xy20 hi10 dX4_induceFalling_15 ?_
  obtain ⟨hi11, hm⟩ := xifn hm
  refine xcopy xm_X4_46 xac1 xac2 xac3 X hP hS 23 24 xy23 xy24 hi11 hl.1 (by decide) (by decide) dX4_induceFalling_16 (fun M12 H locs eM12 hP hS => ?_)
  have hm := xltE hm eM12
  refine lv_aload_n hx hb dX4_induceFalling_19 rfl (lv_at hl 0 rfl) ?_
  refine xget xcX4 X hP 13 5 xy13 (by decide) xf_X4_28 rfl dX4_induceFalling_20 ?_
  refine lv_iload_n hx hb dX4_induceFalling_23 rfl (lv_at hl 1 rfl) ?_
  obtain ⟨hi13, hm⟩ := xifn hm
  refine xiald X hP 19 xy19 hi13 dX4_induceFalling_24 ?_
  refine lv_if_le (tgt := 41) hx hb dX4_induceFalling_25 (by decide) (fun c14 => ?_) (fun c14 => ?_)
  · have hm := xift c14 hm
    exact kX4_induceFalling_41 X V  x1 M12 _ _ _ hm hP hS (lv_sub hl [0, 1] rfl)
  · have hm := xiff c14 hm
    refine lv_aload_n hx hb dX4_induceFalling_28 rfl (lv_at hl 0 rfl) ?_
    refine lv_iload_n hx hb dX4_induceFalling_29 rfl (lv_at hl 1 rfl) ?_
    refine lv_aload_n hx hb dX4_induceFalling_30 rfl (lv_at hl 0 rfl) ?_
    refine xget xcX4 X hP 13 5 xy13 (by decide) xf_X4_28 rfl dX4_induceFalling_31 ?_
    refine lv_iload_n hx hb dX4_induceFalling_34 rfl (lv_at hl 1 rfl) ?_
    obtain ⟨hi15, hm⟩ := xifn hm
    refine xiald X hP 19 xy19 hi15 dX4_induceFalling_35 ?_
    refine lv_iconst (v := 1) hx hb dX4_induceFalling_36 (by decide) ?_
    refine lv_isub hx hb dX4_induceFalling_37 ?_
    obtain ⟨v16, hg, hm⟩ := xbnd hm
    refine xcallV xm_X4_106 xt_X4_putFirst X hP hS (qX4_putFirst l w x1 ((M12 19 x1.toNatClampNeg) - 1) M12 v16 hg) xy13 rfl ⟨Nat.le_of_ble_eq_true rfl, Nat.le_of_ble_eq_true rfl⟩ ⟨rfl, rfl⟩ hl.1 rfl (rest := []) rfl (Nat.le_of_ble_eq_true rfl) dX4_induceFalling_38 ⟨Nat.zero_le _, Nat.zero_le _⟩ (fun H locs hP hS => ?_)
    refine W.eq (g2 := F0 m 41 ls []) rfl ?_
    exact kX4_induceFalling_41 X V  x1 v16 _ _ _ hm hP hS (lv_sub hl [0, 1] rfl)
def fX4_induceRising_67 (k28 : Int32 → Int32 → xM → Option (xM)) (x1 : Int32) (x2 : Int32) (M : xM) : Option (xM) := k28 x1 (x2 + (-1)) M
theorem fX4_induceRising_67_s (k28 : Int32 → Int32 → xM → Option (xM)) (x1 : Int32) (x2 : Int32) (M : xM) : fX4_induceRising_67 k28 x1 x2 M = (k28 x1 (x2 + (-1)) M) := rfl
set_option maxHeartbeats 4000000 in
set_option maxRecDepth 100000 in
theorem kX4_induceRising_67 {p : Program} {l : Launch} {e : Env} {s : State} {m : MethodId} {args : Array Value} {below : List Frame} {meth : Method} {c : Code} {w : xT} (X : xX p s m args meth c cX4_induceRising 4 none RX4 w) (V : xM) (k28 : Int32 → Int32 → xM → Option (xM)) (hk28 : ∀ (x1 : Int32) (x2 : Int32) (M : xM) (H : Heap) (locs : List Loc) (ls : Array Slot), k28 x1 x2 M = some V → xP w M H → xS w s H locs → lv_has ls 4 [(0, .ref (xa w 13)), (1, .int x1), (2, .int x2)] → W p l e { frames := 1, cells := 0, slots := 0, locals := 40 } s m args below meth c H locs 0 0 (xQ w none V below args s) (F0 m 28 ls [])) : ∀ (x1 : Int32) (x2 : Int32) (M : xM) (H : Heap) (locs : List Loc) (ls : Array Slot), fX4_induceRising_67 k28 x1 x2 M = some V → xP w M H → xS w s H locs → lv_has ls 4 [(0, .ref (xa w 13)), (1, .int x1), (2, .int x2)] → W p l e { frames := 1, cells := 0, slots := 0, locals := 40 } s m args below meth c H locs 0 0 (xQ w none V below args s) (F0 m 67 ls []) := by
  have hx := X.1
  have hb := X.2.1
  have hown := X.2.2.2.2.2.1
  have hts := X.2.2.2.2.2.2.1
  intro x1 x2 M H locs ls hm hP hS hl
  rw [fX4_induceRising_67_s] at hm
  refine lv_iinc (v := x2 + (-1)) (lv' := [(2, .int (x2 + (-1))), (0, .ref (xa w 13)), (1, .int x1)]) hx hb dX4_induceRising_67 hl (k := 2) rfl rfl (by decide) rfl (fun ls hl => ?_)
  refine lv_goto (tgt := 28) hx hb dX4_induceRising_70 (by decide) ?_
  exact hk28 x1 (x2 + (-1)) M _ _ _ hm hP hS (lv_sub hl [1, 2, 0] rfl)
def fX4_induceRising_28  : Nat → Int32 → Int32 → xM → Option (xM)
  | 0 => fun _ _ _ => none
  | n + 1 => fun x1 x2 M => if x2 < 0 then (some M) else (if xin x2 408 then xlt ((M 14 x2.toNatClampNeg) - 1) fun y3 => if y3 < 0 then (fX4_induceRising_67 (fX4_induceRising_28 n) x1 x2 M) else (if xin x1 11 then if xin ((M 18 x1.toNatClampNeg) + y3) 816 then if (M 16 ((M 18 x1.toNatClampNeg) + y3).toNatClampNeg) = 0 then (fX4_induceRising_67 (fX4_induceRising_28 n) x1 x2 M) else ((fX4_putLast x1 y3 M).bind fun v8 => fX4_induceRising_67 (fX4_induceRising_28 n) x1 x2 v8) else none else none) else none)
theorem fX4_induceRising_28_s  (n : Nat) (x1 : Int32) (x2 : Int32) (M : xM) : fX4_induceRising_28  (n + 1) x1 x2 M = (if x2 < 0 then (some M) else (if xin x2 408 then xlt ((M 14 x2.toNatClampNeg) - 1) fun y3 => if y3 < 0 then (fX4_induceRising_67 (fX4_induceRising_28 n) x1 x2 M) else (if xin x1 11 then if xin ((M 18 x1.toNatClampNeg) + y3) 816 then if (M 16 ((M 18 x1.toNatClampNeg) + y3).toNatClampNeg) = 0 then (fX4_induceRising_67 (fX4_induceRising_28 n) x1 x2 M) else ((fX4_putLast x1 y3 M).bind fun v8 => fX4_induceRising_67 (fX4_induceRising_28 n) x1 x2 v8) else none else none) else none)) := rfl
set_option maxHeartbeats 4000000 in
set_option maxRecDepth 100000 in
theorem kX4_induceRising_28 {p : Program} {l : Launch} {e : Env} {s : State} {m : MethodId} {args : Array Value} {below : List Frame} {meth : Method} {c : Code} {w : xT} (X : xX p s m args meth c cX4_induceRising 4 none RX4 w) (V : xM)  : ∀ (n : Nat) (x1 : Int32) (x2 : Int32) (M : xM) (H : Heap) (locs : List Loc) (ls : Array Slot), fX4_induceRising_28  n x1 x2 M = some V → xP w M H → xS w s H locs → lv_has ls 4 [(0, .ref (xa w 13)), (1, .int x1), (2, .int x2)] → W p l e { frames := 1, cells := 0, slots := 0, locals := 40 } s m args below meth c H locs 0 0 (xQ w none V below args s) (F0 m 28 ls []) := by
  have hx := X.1
  have hb := X.2.1
  have hown := X.2.2.2.2.2.1
  have hts := X.2.2.2.2.2.2.1
  intro n
  induction n with
  | zero => intro x1 x2 M H locs ls hm hP hS hl; exact xnon hm
  | succ n ih =>
    intro x1 x2 M H locs ls hm hP hS hl
    rw [fX4_induceRising_28_s] at hm
    refine lv_iload_n hx hb dX4_induceRising_28 rfl (lv_at hl 2 rfl) ?_
    refine lv_if_lt (tgt := 73) hx hb dX4_induceRising_29 (by decide) (fun c1 => ?_) (fun c1 => ?_)
    · have hm := xift c1 hm
      obtain rfl := Option.some.inj hm
      exact xvret X hP hS dX4_induceRising_73
    · have hm := xiff c1 hm
      refine lv_aload_n hx hb dX4_induceRising_32 rfl (lv_at hl 0 rfl) ?_
      refine xget xcX4 X hP 13 0 xy13 (by decide) xf_X4_9 rfl dX4_induceRising_33 ?_
      refine lv_iload_n hx hb dX4_induceRising_36 rfl (lv_at hl 2 rfl) ?_
      obtain ⟨hi2, hm⟩ := xifn hm
      refine xiald X hP 14 xy14 hi2 dX4_induceRising_37 ?_
      refine lv_iconst (v := 1) hx hb dX4_induceRising_38 (by decide) ?_
      refine lv_isub hx hb dX4_induceRising_39 ?_
      refine lv_topi (fun y3 ey3 => ?_)
      have hm := xltE hm ey3
      refine lv_istore_n (lv' := [(3, .int y3), (0, .ref (xa w 13)), (1, .int x1), (2, .int x2)]) hx hb dX4_induceRising_40 rfl hl (by decide) rfl (fun ls hl => ?_)
      refine lv_iload_n hx hb dX4_induceRising_41 rfl (lv_at hl 0 rfl) ?_
      refine lv_if_lt (tgt := 67) hx hb dX4_induceRising_42 (by decide) (fun c4 => ?_) (fun c4 => ?_)
      · have hm := xift c4 hm
        exact kX4_induceRising_67 X V (fX4_induceRising_28 n) ih x1 x2 M _ _ _ hm hP hS (lv_sub hl [1, 2, 3] rfl)
      · have hm := xiff c4 hm
        refine lv_aload_n hx hb dX4_induceRising_45 rfl (lv_at hl 1 rfl) ?_
        refine xget xcX4 X hP 13 2 xy13 (by decide) xf_X4_18 rfl dX4_induceRising_46 ?_
        refine lv_aload_n hx hb dX4_induceRising_49 rfl (lv_at hl 1 rfl) ?_
        refine xget xcX4 X hP 13 4 xy13 (by decide) xf_X4_25 rfl dX4_induceRising_50 ?_
        refine lv_iload_n hx hb dX4_induceRising_53 rfl (lv_at hl 2 rfl) ?_
        obtain ⟨hi5, hm⟩ := xifn hm
        refine xiald X hP 18 xy18 hi5 dX4_induceRising_54 ?_
        refine lv_iload_n hx hb dX4_induceRising_55 rfl (lv_at hl 0 rfl) ?_
        refine lv_iadd hx hb dX4_induceRising_56 ?_
        obtain ⟨hi6, hm⟩ := xifn hm
        refine xzald X hP 16 xy16 hi6 dX4_induceRising_57 ?_
        refine lv_if_eq (tgt := 67) hx hb dX4_induceRising_58 (by decide) (fun c7 => ?_) (fun c7 => ?_)
        · have hm := xift c7 hm
          exact kX4_induceRising_67 X V (fX4_induceRising_28 n) ih x1 x2 M _ _ _ hm hP hS (lv_sub hl [1, 2, 3] rfl)
        · have hm := xiff c7 hm
          refine lv_aload_n hx hb dX4_induceRising_61 rfl (lv_at hl 1 rfl) ?_
          refine lv_iload_n hx hb dX4_induceRising_62 rfl (lv_at hl 2 rfl) ?_
          refine lv_iload_n hx hb dX4_induceRising_63 rfl (lv_at hl 0 rfl) ?_
          obtain ⟨v8, hg, hm⟩ := xbnd hm
          refine xcallV xm_X4_103 xt_X4_putLast X hP hS (qX4_putLast l w x1 y3 M v8 hg) xy13 rfl ⟨Nat.le_of_ble_eq_true rfl, Nat.le_of_ble_eq_true rfl⟩ ⟨rfl, rfl⟩ hl.1 rfl (rest := []) rfl (Nat.le_of_ble_eq_true rfl) dX4_induceRising_64 ⟨Nat.zero_le _, Nat.zero_le _⟩ (fun H locs hP hS => ?_)
          refine W.eq (g2 := F0 m 67 ls []) rfl ?_
          exact kX4_induceRising_67 X V (fX4_induceRising_28 n) ih x1 x2 v8 _ _ _ hm hP hS (lv_sub hl [1, 2, 3] rfl)
def fX4_induceRising (x1 : Int32) (M : xM) : Option (xM) := if xin x1 11 then if xcin 1 0 (M 20 x1.toNatClampNeg) 1009 1008 then xlt (xcp M 23 24 1 0 (M 20 x1.toNatClampNeg)) fun M11 => if xin x1 11 then xlt ((M11 19 x1.toNatClampNeg) - 1) fun y13 => fX4_induceRising_28 4096 x1 y13 M11 else none else none else none
theorem fX4_induceRising_s (x1 : Int32) (M : xM) : fX4_induceRising x1 M = (if xin x1 11 then if xcin 1 0 (M 20 x1.toNatClampNeg) 1009 1008 then xlt (xcp M 23 24 1 0 (M 20 x1.toNatClampNeg)) fun M11 => if xin x1 11 then xlt ((M11 19 x1.toNatClampNeg) - 1) fun y13 => fX4_induceRising_28 4096 x1 y13 M11 else none else none else none) := rfl
set_option maxHeartbeats 4000000 in
set_option maxRecDepth 100000 in
theorem qX4_induceRising (l : Launch) (w : xT) (x1 : Int32) (M : xM) (V : xM) (hm : fX4_induceRising x1 M = some V) : xC l yX4_induceRising (Cond.code yX4_induceRising cX4_induceRising 4 none) { frames := 1, cells := 0, slots := 0, locals := 40 } w [.ref (xa w 13), .int x1] M none V := by
  refine xC.of (by decide) (Nat.le_of_ble_eq_true rfl) ?_
  intro p e s m args below meth c ls X hP hS hl
  have hl : lv_has ls 4 [(0, .ref (xa w 13)), (1, .int x1)] := hl
  have X : xX p s m args meth c cX4_induceRising 4 none RX4 w := X
  have hx := X.1
  have hb := X.2.1
  have hown := X.2.2.2.2.2.1
  have hts := X.2.2.2.2.2.2.1
  rw [fX4_induceRising_s] at hm
  refine lv_aload_n hx hb dX4_induceRising_0 rfl (lv_at hl 0 rfl) ?_
  refine xget xcX4 X hP 13 9 xy13 (by decide) xf_X4_40 rfl dX4_induceRising_1 ?_
  refine lv_iconst (v := 1) hx hb dX4_induceRising_4 (by decide) ?_
  refine lv_aload_n hx hb dX4_induceRising_5 rfl (lv_at hl 0 rfl) ?_
  refine xget xcX4 X hP 13 10 xy13 (by decide) xf_X4_43 rfl dX4_induceRising_6 ?_
  refine lv_iconst (v := 0) hx hb dX4_induceRising_9 (by decide) ?_
  refine lv_aload_n hx hb dX4_induceRising_10 rfl (lv_at hl 0 rfl) ?_
  refine xget xcX4 X hP 13 6 xy13 (by decide) xf_X4_31 rfl dX4_induceRising_11 ?_
  refine lv_iload_n hx hb dX4_induceRising_14 rfl (lv_at hl 1 rfl) ?_
  obtain ⟨hi9, hm⟩ := xifn hm
  refine xiald X hP 20 xy20 hi9 dX4_induceRising_15 ?_
  obtain ⟨hi10, hm⟩ := xifn hm
  refine xcopy xm_X4_46 xac1 xac2 xac3 X hP hS 23 24 xy23 xy24 hi10 hl.1 (by decide) (by decide) dX4_induceRising_16 (fun M11 H locs eM11 hP hS => ?_)
  have hm := xltE hm eM11
  refine lv_aload_n hx hb dX4_induceRising_19 rfl (lv_at hl 0 rfl) ?_
  refine xget xcX4 X hP 13 5 xy13 (by decide) xf_X4_28 rfl dX4_induceRising_20 ?_
  refine lv_iload_n hx hb dX4_induceRising_23 rfl (lv_at hl 1 rfl) ?_
  obtain ⟨hi12, hm⟩ := xifn hm
  refine xiald X hP 19 xy19 hi12 dX4_induceRising_24 ?_
  refine lv_iconst (v := 1) hx hb dX4_induceRising_25 (by decide) ?_
  refine lv_isub hx hb dX4_induceRising_26 ?_
  refine lv_topi (fun y13 ey13 => ?_)
  have hm := xltE hm ey13
  refine lv_istore_n (lv' := [(2, .int y13), (0, .ref (xa w 13)), (1, .int x1)]) hx hb dX4_induceRising_27 rfl hl (by decide) rfl (fun ls hl => ?_)
  exact kX4_induceRising_28 X V  4096 x1 y13 M11 _ _ _ hm hP hS (lv_sub hl [1, 2, 0] rfl)
