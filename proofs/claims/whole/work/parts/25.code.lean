def fX0_unchain_27  (x1 : Int32) (M : xM) : Option (xM) := if xin x1 408 then if (M 30 x1.toNatClampNeg) = (-1) then (some M) else (if xin x1 408 then if xin x1 408 then if xin (M 30 x1.toNatClampNeg) 408 then xlt (xs1 M 29 (M 30 x1.toNatClampNeg).toNatClampNeg (M 29 x1.toNatClampNeg)) fun M6 => if xin x1 408 then if xin x1 408 then if xin x1 408 then if xin (M6 30 x1.toNatClampNeg) 408 then if xin (M6 30 x1.toNatClampNeg) 408 then xlt (xs1 M6 31 (M6 30 x1.toNatClampNeg).toNatClampNeg (if (M6 31 (M6 30 x1.toNatClampNeg).toNatClampNeg) < (M6 31 x1.toNatClampNeg) then (M6 31 (M6 30 x1.toNatClampNeg).toNatClampNeg) else (M6 31 x1.toNatClampNeg))) fun M12 => some M12 else none else none else none else none else none else none else none else none) else none
theorem fX0_unchain_27_s  (x1 : Int32) (M : xM) : fX0_unchain_27  x1 M = (if xin x1 408 then if (M 30 x1.toNatClampNeg) = (-1) then (some M) else (if xin x1 408 then if xin x1 408 then if xin (M 30 x1.toNatClampNeg) 408 then xlt (xs1 M 29 (M 30 x1.toNatClampNeg).toNatClampNeg (M 29 x1.toNatClampNeg)) fun M6 => if xin x1 408 then if xin x1 408 then if xin x1 408 then if xin (M6 30 x1.toNatClampNeg) 408 then if xin (M6 30 x1.toNatClampNeg) 408 then xlt (xs1 M6 31 (M6 30 x1.toNatClampNeg).toNatClampNeg (if (M6 31 (M6 30 x1.toNatClampNeg).toNatClampNeg) < (M6 31 x1.toNatClampNeg) then (M6 31 (M6 30 x1.toNatClampNeg).toNatClampNeg) else (M6 31 x1.toNatClampNeg))) fun M12 => some M12 else none else none else none else none else none else none else none else none) else none) := rfl
set_option maxHeartbeats 4000000 in
set_option maxRecDepth 100000 in
theorem kX0_unchain_27 {p : Program} {l : Launch} {e : Env} {s : State} {m : MethodId} {args : Array Value} {below : List Frame} {meth : Method} {c : Code} {w : xT} (X : xX p s m args meth c cX0_unchain 2 none RX0 w) (V : xM)  : ∀ (x1 : Int32) (M : xM) (H : Heap) (locs : List Loc) (ls : Array Slot), fX0_unchain_27  x1 M = some V → xP w M H → xS w s H locs → lv_has ls 2 [(0, .ref (xa w 25)), (1, .int x1)] → W p l e { frames := 1, cells := 0, slots := 0, locals := 40 } s m args below meth c H locs 0 0 (xQ w none V below args s) (F0 m 27 ls []) := by
  have hx := X.1
  have hb := X.2.1
  have hown := X.2.2.2.2.2.1
  have hts := X.2.2.2.2.2.2.1
  intro x1 M H locs ls hm hP hS hl
  rw [fX0_unchain_27_s] at hm
  refine lv_aload_n hx hb dX0_unchain_27 rfl (lv_at hl 0 rfl) ?_
  refine xget xcX0 X hP 25 6 xy25 (by decide) xf_X0_24 rfl dX0_unchain_28 ?_
  refine lv_iload_n hx hb dX0_unchain_31 rfl (lv_at hl 1 rfl) ?_
  obtain ⟨hi1, hm⟩ := xifn hm
  refine xiald X hP 30 xy30 hi1 dX0_unchain_32 ?_
  refine lv_iconst (v := (-1)) hx hb dX0_unchain_33 (by decide) ?_
  refine lv_icmp_eq (tgt := 85) hx hb dX0_unchain_34 (by decide) (fun c2 => ?_) (fun c2 => ?_)
  · have hm := xift c2 hm
    obtain rfl := Option.some.inj hm
    exact xvret X hP hS dX0_unchain_85
  · have hm := xiff c2 hm
    refine lv_aload_n hx hb dX0_unchain_37 rfl (lv_at hl 0 rfl) ?_
    refine xget xcX0 X hP 25 5 xy25 (by decide) xf_X0_21 rfl dX0_unchain_38 ?_
    refine lv_aload_n hx hb dX0_unchain_41 rfl (lv_at hl 0 rfl) ?_
    refine xget xcX0 X hP 25 6 xy25 (by decide) xf_X0_24 rfl dX0_unchain_42 ?_
    refine lv_iload_n hx hb dX0_unchain_45 rfl (lv_at hl 1 rfl) ?_
    obtain ⟨hi3, hm⟩ := xifn hm
    refine xiald X hP 30 xy30 hi3 dX0_unchain_46 ?_
    refine lv_aload_n hx hb dX0_unchain_47 rfl (lv_at hl 0 rfl) ?_
    refine xget xcX0 X hP 25 5 xy25 (by decide) xf_X0_21 rfl dX0_unchain_48 ?_
    refine lv_iload_n hx hb dX0_unchain_51 rfl (lv_at hl 1 rfl) ?_
    obtain ⟨hi4, hm⟩ := xifn hm
    refine xiald X hP 29 xy29 hi4 dX0_unchain_52 ?_
    obtain ⟨hi5, hm⟩ := xifn hm
    refine xiast X hP hS 29 xy29 hi5 dX0_unchain_53 (fun M6 H locs eM6 hP hS => ?_)
    have hm := xltE hm eM6
    refine lv_aload_n hx hb dX0_unchain_54 rfl (lv_at hl 0 rfl) ?_
    refine xget xcX0 X hP 25 7 xy25 (by decide) xf_X0_27 rfl dX0_unchain_55 ?_
    refine lv_aload_n hx hb dX0_unchain_58 rfl (lv_at hl 0 rfl) ?_
    refine xget xcX0 X hP 25 6 xy25 (by decide) xf_X0_24 rfl dX0_unchain_59 ?_
    refine lv_iload_n hx hb dX0_unchain_62 rfl (lv_at hl 1 rfl) ?_
    obtain ⟨hi7, hm⟩ := xifn hm
    refine xiald X hP 30 xy30 hi7 dX0_unchain_63 ?_
    refine lv_aload_n hx hb dX0_unchain_64 rfl (lv_at hl 0 rfl) ?_
    refine xget xcX0 X hP 25 7 xy25 (by decide) xf_X0_27 rfl dX0_unchain_65 ?_
    refine lv_iload_n hx hb dX0_unchain_68 rfl (lv_at hl 1 rfl) ?_
    obtain ⟨hi8, hm⟩ := xifn hm
    refine xiald X hP 31 xy31 hi8 dX0_unchain_69 ?_
    refine lv_aload_n hx hb dX0_unchain_70 rfl (lv_at hl 0 rfl) ?_
    refine xget xcX0 X hP 25 7 xy25 (by decide) xf_X0_27 rfl dX0_unchain_71 ?_
    refine lv_aload_n hx hb dX0_unchain_74 rfl (lv_at hl 0 rfl) ?_
    refine xget xcX0 X hP 25 6 xy25 (by decide) xf_X0_24 rfl dX0_unchain_75 ?_
    refine lv_iload_n hx hb dX0_unchain_78 rfl (lv_at hl 1 rfl) ?_
    obtain ⟨hi9, hm⟩ := xifn hm
    refine xiald X hP 30 xy30 hi9 dX0_unchain_79 ?_
    obtain ⟨hi10, hm⟩ := xifn hm
    refine xiald X hP 31 xy31 hi10 dX0_unchain_80 ?_
    refine va_mmin hx hb (X.2.2.1.trans hl.1.symm) hown (hts _ xm_X0_76) (hts _ xt_J9_min_7cf53) (hts _ xn_J9_min_7cf53) (hts _ xo_J9_min_7cf53) (by decide) (Nat.le_of_ble_eq_true rfl) (Nat.zero_le _) (Nat.zero_le _) dX0_unchain_81 ?_
    obtain ⟨hi11, hm⟩ := xifn hm
    refine xiast X hP hS 31 xy31 hi11 dX0_unchain_84 (fun M12 H locs eM12 hP hS => ?_)
    have hm := xltE hm eM12
    obtain rfl := Option.some.inj hm
    exact xvret X hP hS dX0_unchain_85
def fX0_unchain (x1 : Int32) (M : xM) : Option (xM) := if xin x1 408 then if (M 29 x1.toNatClampNeg) = (-1) then (fX0_unchain_27 x1 M) else (if xin x1 408 then if xin x1 408 then if xin (M 29 x1.toNatClampNeg) 408 then xlt (xs1 M 30 (M 29 x1.toNatClampNeg).toNatClampNeg (M 30 x1.toNatClampNeg)) fun M18 => fX0_unchain_27 x1 M18 else none else none else none) else none
theorem fX0_unchain_s (x1 : Int32) (M : xM) : fX0_unchain x1 M = (if xin x1 408 then if (M 29 x1.toNatClampNeg) = (-1) then (fX0_unchain_27 x1 M) else (if xin x1 408 then if xin x1 408 then if xin (M 29 x1.toNatClampNeg) 408 then xlt (xs1 M 30 (M 29 x1.toNatClampNeg).toNatClampNeg (M 30 x1.toNatClampNeg)) fun M18 => fX0_unchain_27 x1 M18 else none else none else none) else none) := rfl
set_option maxHeartbeats 4000000 in
set_option maxRecDepth 100000 in
theorem qX0_unchain (l : Launch) (w : xT) (x1 : Int32) (M : xM) (V : xM) (hm : fX0_unchain x1 M = some V) : xC l yX0_unchain (Cond.code yX0_unchain cX0_unchain 2 none) { frames := 1, cells := 0, slots := 0, locals := 40 } w [.ref (xa w 25), .int x1] M none V := by
  refine xC.of (by decide) (Nat.le_of_ble_eq_true rfl) ?_
  intro p e s m args below meth c ls X hP hS hl
  have hl : lv_has ls 2 [(0, .ref (xa w 25)), (1, .int x1)] := hl
  have X : xX p s m args meth c cX0_unchain 2 none RX0 w := X
  have hx := X.1
  have hb := X.2.1
  have hown := X.2.2.2.2.2.1
  have hts := X.2.2.2.2.2.2.1
  rw [fX0_unchain_s] at hm
  refine lv_aload_n hx hb dX0_unchain_0 rfl (lv_at hl 0 rfl) ?_
  refine xget xcX0 X hP 25 5 xy25 (by decide) xf_X0_21 rfl dX0_unchain_1 ?_
  refine lv_iload_n hx hb dX0_unchain_4 rfl (lv_at hl 1 rfl) ?_
  obtain ⟨hi13, hm⟩ := xifn hm
  refine xiald X hP 29 xy29 hi13 dX0_unchain_5 ?_
  refine lv_iconst (v := (-1)) hx hb dX0_unchain_6 (by decide) ?_
  refine lv_icmp_eq (tgt := 27) hx hb dX0_unchain_7 (by decide) (fun c14 => ?_) (fun c14 => ?_)
  · have hm := xift c14 hm
    exact kX0_unchain_27 X V  x1 M _ _ _ hm hP hS (lv_sub hl [0, 1] rfl)
  · have hm := xiff c14 hm
    refine lv_aload_n hx hb dX0_unchain_10 rfl (lv_at hl 0 rfl) ?_
    refine xget xcX0 X hP 25 6 xy25 (by decide) xf_X0_24 rfl dX0_unchain_11 ?_
    refine lv_aload_n hx hb dX0_unchain_14 rfl (lv_at hl 0 rfl) ?_
    refine xget xcX0 X hP 25 5 xy25 (by decide) xf_X0_21 rfl dX0_unchain_15 ?_
    refine lv_iload_n hx hb dX0_unchain_18 rfl (lv_at hl 1 rfl) ?_
    obtain ⟨hi15, hm⟩ := xifn hm
    refine xiald X hP 29 xy29 hi15 dX0_unchain_19 ?_
    refine lv_aload_n hx hb dX0_unchain_20 rfl (lv_at hl 0 rfl) ?_
    refine xget xcX0 X hP 25 6 xy25 (by decide) xf_X0_24 rfl dX0_unchain_21 ?_
    refine lv_iload_n hx hb dX0_unchain_24 rfl (lv_at hl 1 rfl) ?_
    obtain ⟨hi16, hm⟩ := xifn hm
    refine xiald X hP 30 xy30 hi16 dX0_unchain_25 ?_
    obtain ⟨hi17, hm⟩ := xifn hm
    refine xiast X hP hS 30 xy30 hi17 dX0_unchain_26 (fun M18 H locs eM18 hP hS => ?_)
    have hm := xltE hm eM18
    exact kX0_unchain_27 X V  x1 M18 _ _ _ hm hP hS (lv_sub hl [0, 1] rfl)
def fX0_leastLike_9  : Nat → Int32 → Int32 → Int32 → xM → Option (Int32)
  | 0 => fun _ _ _ _ => none
  | n + 1 => fun x1 x2 x3 M0 => if x1 ≤ x3 then (some x2) else (if x2 = (-1) then (some x2) else (if xin x2 408 then if xin x1 408 then if (M0 27 x2.toNatClampNeg) < (M0 27 x1.toNatClampNeg) then (some x2) else (if xin x2 408 then fX0_leastLike_9 n x1 (M0 26 x2.toNatClampNeg) (x3 + 1) M0 else none) else none else none))
theorem fX0_leastLike_9_s  (n : Nat) (x1 : Int32) (x2 : Int32) (x3 : Int32) (M0 : xM) : fX0_leastLike_9  (n + 1) x1 x2 x3 M0 = (if x1 ≤ x3 then (some x2) else (if x2 = (-1) then (some x2) else (if xin x2 408 then if xin x1 408 then if (M0 27 x2.toNatClampNeg) < (M0 27 x1.toNatClampNeg) then (some x2) else (if xin x2 408 then fX0_leastLike_9 n x1 (M0 26 x2.toNatClampNeg) (x3 + 1) M0 else none) else none else none))) := rfl
set_option maxHeartbeats 4000000 in
set_option maxRecDepth 100000 in
theorem kX0_leastLike_9 {p : Program} {l : Launch} {e : Env} {s : State} {m : MethodId} {args : Array Value} {below : List Frame} {meth : Method} {c : Code} {w : xT} (X : xX p s m args meth c cX0_leastLike 4 (some .int) RX0 w) (V : Int32)  : ∀ (n : Nat) (x1 : Int32) (x2 : Int32) (x3 : Int32) (M0 : xM) (H : Heap) (locs : List Loc) (ls : Array Slot), fX0_leastLike_9  n x1 x2 x3 M0 = some V → xP w M0 H → xS w s H locs → lv_has ls 4 [(0, .ref (xa w 25)), (1, .int x1), (2, .int x2), (3, .int x3)] → W p l e { frames := 0, cells := 0, slots := 0, locals := 0 } s m args below meth c H locs 0 0 (xQ w (some (.int V)) M0 below args s) (F0 m 9 ls []) := by
  have hx := X.1
  have hb := X.2.1
  have hown := X.2.2.2.2.2.1
  have hts := X.2.2.2.2.2.2.1
  intro n
  induction n with
  | zero => intro x1 x2 x3 M0 H locs ls hm hP hS hl; exact xnon hm
  | succ n ih =>
    intro x1 x2 x3 M0 H locs ls hm hP hS hl
    rw [fX0_leastLike_9_s] at hm
    refine lv_iload_n hx hb dX0_leastLike_9 rfl (lv_at hl 3 rfl) ?_
    refine lv_iload_n hx hb dX0_leastLike_10 rfl (lv_at hl 1 rfl) ?_
    refine lv_icmp_ge (tgt := 47) hx hb dX0_leastLike_11 (by decide) (fun c1 => ?_) (fun c1 => ?_)
    · have hm := xift c1 hm
      refine lv_iload_n hx hb dX0_leastLike_47 rfl (lv_at hl 2 rfl) ?_
      obtain rfl := Option.some.inj hm
      exact xiret X hP hS dX0_leastLike_48
    · have hm := xiff c1 hm
      refine lv_iload_n hx hb dX0_leastLike_14 rfl (lv_at hl 2 rfl) ?_
      refine lv_iconst (v := (-1)) hx hb dX0_leastLike_15 (by decide) ?_
      refine lv_icmp_eq (tgt := 47) hx hb dX0_leastLike_16 (by decide) (fun c2 => ?_) (fun c2 => ?_)
      · have hm := xift c2 hm
        refine lv_iload_n hx hb dX0_leastLike_47 rfl (lv_at hl 2 rfl) ?_
        obtain rfl := Option.some.inj hm
        exact xiret X hP hS dX0_leastLike_48
      · have hm := xiff c2 hm
        refine lv_aload_n hx hb dX0_leastLike_19 rfl (lv_at hl 0 rfl) ?_
        refine xget xcX0 X hP 25 1 xy25 (by decide) xf_X0_15 rfl dX0_leastLike_20 ?_
        refine lv_iload_n hx hb dX0_leastLike_23 rfl (lv_at hl 2 rfl) ?_
        obtain ⟨hi3, hm⟩ := xifn hm
        refine xiald X hP 27 xy27 hi3 dX0_leastLike_24 ?_
        refine lv_aload_n hx hb dX0_leastLike_25 rfl (lv_at hl 0 rfl) ?_
        refine xget xcX0 X hP 25 1 xy25 (by decide) xf_X0_15 rfl dX0_leastLike_26 ?_
        refine lv_iload_n hx hb dX0_leastLike_29 rfl (lv_at hl 1 rfl) ?_
        obtain ⟨hi4, hm⟩ := xifn hm
        refine xiald X hP 27 xy27 hi4 dX0_leastLike_30 ?_
        refine lv_icmp_lt (tgt := 47) hx hb dX0_leastLike_31 (by decide) (fun c5 => ?_) (fun c5 => ?_)
        · have hm := xift c5 hm
          refine lv_iload_n hx hb dX0_leastLike_47 rfl (lv_at hl 2 rfl) ?_
          obtain rfl := Option.some.inj hm
          exact xiret X hP hS dX0_leastLike_48
        · have hm := xiff c5 hm
          refine lv_aload_n hx hb dX0_leastLike_34 rfl (lv_at hl 0 rfl) ?_
          refine xget xcX0 X hP 25 0 xy25 (by decide) xf_X0_9 rfl dX0_leastLike_35 ?_
          refine lv_iload_n hx hb dX0_leastLike_38 rfl (lv_at hl 2 rfl) ?_
          obtain ⟨hi6, hm⟩ := xifn hm
          refine xiald X hP 26 xy26 hi6 dX0_leastLike_39 ?_
          refine lv_istore_n (lv' := [(2, .int (M0 26 x2.toNatClampNeg)), (0, .ref (xa w 25)), (1, .int x1), (3, .int x3)]) hx hb dX0_leastLike_40 rfl hl (by decide) rfl (fun ls hl => ?_)
          refine lv_iinc (v := x3 + 1) (lv' := [(3, .int (x3 + 1)), (2, .int (M0 26 x2.toNatClampNeg)), (0, .ref (xa w 25)), (1, .int x1)]) hx hb dX0_leastLike_41 hl (k := 3) rfl rfl (by decide) rfl (fun ls hl => ?_)
          refine lv_goto (tgt := 9) hx hb dX0_leastLike_44 (by decide) ?_
          exact ih x1 (M0 26 x2.toNatClampNeg) (x3 + 1) M0 _ _ _ hm hP hS (lv_sub hl [2, 3, 1, 0] rfl)
def fX0_leastLike (x1 : Int32) (M0 : xM) : Option (Int32) := if xin x1 408 then fX0_leastLike_9 4096 x1 (M0 26 x1.toNatClampNeg) 0 M0 else none
theorem fX0_leastLike_s (x1 : Int32) (M0 : xM) : fX0_leastLike x1 M0 = (if xin x1 408 then fX0_leastLike_9 4096 x1 (M0 26 x1.toNatClampNeg) 0 M0 else none) := rfl
set_option maxHeartbeats 4000000 in
set_option maxRecDepth 100000 in
theorem qX0_leastLike (l : Launch) (w : xT) (x1 : Int32) (M0 : xM) (V : Int32) (hm : fX0_leastLike x1 M0 = some V) : xC l yX0_leastLike (Cond.code yX0_leastLike cX0_leastLike 4 (some .int)) { frames := 0, cells := 0, slots := 0, locals := 0 } w [.ref (xa w 25), .int x1] M0 (some (.int V)) M0 := by
  refine xC.of (by decide) (Nat.le_of_ble_eq_true rfl) ?_
  intro p e s m args below meth c ls X hP hS hl
  have hl : lv_has ls 4 [(0, .ref (xa w 25)), (1, .int x1)] := hl
  have X : xX p s m args meth c cX0_leastLike 4 (some .int) RX0 w := X
  have hx := X.1
  have hb := X.2.1
  have hown := X.2.2.2.2.2.1
  have hts := X.2.2.2.2.2.2.1
  rw [fX0_leastLike_s] at hm
  refine lv_aload_n hx hb dX0_leastLike_0 rfl (lv_at hl 0 rfl) ?_
  refine xget xcX0 X hP 25 0 xy25 (by decide) xf_X0_9 rfl dX0_leastLike_1 ?_
  refine lv_iload_n hx hb dX0_leastLike_4 rfl (lv_at hl 1 rfl) ?_
  obtain ⟨hi7, hm⟩ := xifn hm
  refine xiald X hP 26 xy26 hi7 dX0_leastLike_5 ?_
  refine lv_istore_n (lv' := [(2, .int (M0 26 x1.toNatClampNeg)), (0, .ref (xa w 25)), (1, .int x1)]) hx hb dX0_leastLike_6 rfl hl (by decide) rfl (fun ls hl => ?_)
  refine lv_iconst (v := 0) hx hb dX0_leastLike_7 (by decide) ?_
  refine lv_istore_n (lv' := [(3, .int 0), (2, .int (M0 26 x1.toNatClampNeg)), (0, .ref (xa w 25)), (1, .int x1)]) hx hb dX0_leastLike_8 rfl hl (by decide) rfl (fun ls hl => ?_)
  exact kX0_leastLike_9 X V  4096 x1 (M0 26 x1.toNatClampNeg) 0 M0 _ _ _ hm hP hS (lv_sub hl [2, 3, 1, 0] rfl)
def fX7_isEnd (x1 : Int32) (M0 : xM) : Option (Int32) := if xin x1 408 then if 8 ≤ (M0 5 x1.toNatClampNeg) then (some 0) else (some 1) else none
theorem fX7_isEnd_s (x1 : Int32) (M0 : xM) : fX7_isEnd x1 M0 = (if xin x1 408 then if 8 ≤ (M0 5 x1.toNatClampNeg) then (some 0) else (some 1) else none) := rfl
set_option maxHeartbeats 4000000 in
set_option maxRecDepth 100000 in
theorem qX7_isEnd (l : Launch) (w : xT) (x1 : Int32) (M0 : xM) (V : Int32) (hm : fX7_isEnd x1 M0 = some V) : xC l yX7_isEnd (Cond.code yX7_isEnd cX7_isEnd 2 (some .boolean)) { frames := 0, cells := 0, slots := 0, locals := 0 } w [.ref (xa w 4), .int x1] M0 (some (.int V)) M0 := by
  refine xC.of (by decide) (Nat.le_of_ble_eq_true rfl) ?_
  intro p e s m args below meth c ls X hP hS hl
  have hl : lv_has ls 2 [(0, .ref (xa w 4)), (1, .int x1)] := hl
  have X : xX p s m args meth c cX7_isEnd 2 (some .boolean) RX7 w := X
  have hx := X.1
  have hb := X.2.1
  have hown := X.2.2.2.2.2.1
  have hts := X.2.2.2.2.2.2.1
  rw [fX7_isEnd_s] at hm
  refine lv_aload_n hx hb dX7_isEnd_0 rfl (lv_at hl 0 rfl) ?_
  refine xget xcX7 X hP 4 0 xy4 (by decide) xf_X7_9 rfl dX7_isEnd_1 ?_
  refine lv_iload_n hx hb dX7_isEnd_4 rfl (lv_at hl 1 rfl) ?_
  obtain ⟨hi1, hm⟩ := xifn hm
  refine xiald X hP 5 xy5 hi1 dX7_isEnd_5 ?_
  refine lv_bipush (v := 8) hx hb dX7_isEnd_6 (by decide) ?_
  refine lv_icmp_ge (tgt := 15) hx hb dX7_isEnd_8 (by decide) (fun c2 => ?_) (fun c2 => ?_)
  · have hm := xift c2 hm
    refine lv_iconst (v := 0) hx hb dX7_isEnd_15 (by decide) ?_
    obtain rfl := Option.some.inj hm
    exact xzret X hP hS rfl dX7_isEnd_16
  · have hm := xiff c2 hm
    refine lv_iconst (v := 1) hx hb dX7_isEnd_11 (by decide) ?_
    refine lv_goto (tgt := 16) hx hb dX7_isEnd_12 (by decide) ?_
    obtain rfl := Option.some.inj hm
    exact xzret X hP hS rfl dX7_isEnd_16
def fX0_countPieces_66 (k10 : Int32 → xM → Option (xM)) (x1 : Int32) (s1 : Int32) (s2 : Int32) (M : xM) : Option (xM) := if xin s1 408 then xlt (xs1 M 28 s1.toNatClampNeg s2) fun M2 => k10 (x1 + (-1)) M2 else none
theorem fX0_countPieces_66_s (k10 : Int32 → xM → Option (xM)) (x1 : Int32) (s1 : Int32) (s2 : Int32) (M : xM) : fX0_countPieces_66 k10 x1 s1 s2 M = (if xin s1 408 then xlt (xs1 M 28 s1.toNatClampNeg s2) fun M2 => k10 (x1 + (-1)) M2 else none) := rfl
set_option maxHeartbeats 4000000 in
set_option maxRecDepth 100000 in
theorem kX0_countPieces_66 {p : Program} {l : Launch} {e : Env} {s : State} {m : MethodId} {args : Array Value} {below : List Frame} {meth : Method} {c : Code} {w : xT} (X : xX p s m args meth c cX0_countPieces 3 none RX0 w) (V : xM) (k10 : Int32 → xM → Option (xM)) (hk10 : ∀ (x1 : Int32) (M : xM) (H : Heap) (locs : List Loc) (ls : Array Slot), k10 x1 M = some V → xP w M H → xS w s H locs → lv_has ls 3 [(0, .ref (xa w 25)), (1, .int x1)] → W p l e { frames := 1, cells := 0, slots := 0, locals := 40 } s m args below meth c H locs 0 0 (xQ w none V below args s) (F0 m 10 ls [])) : ∀ (x1 : Int32) (s1 : Int32) (s2 : Int32) (M : xM) (H : Heap) (locs : List Loc) (ls : Array Slot), fX0_countPieces_66 k10 x1 s1 s2 M = some V → xP w M H → xS w s H locs → lv_has ls 3 [(0, .ref (xa w 25)), (1, .int x1)] → W p l e { frames := 1, cells := 0, slots := 0, locals := 40 } s m args below meth c H locs 0 0 (xQ w none V below args s) (F0 m 66 ls [.int s2, .int s1, .ref (xa w 28)]) := by
  have hx := X.1
  have hb := X.2.1
  have hown := X.2.2.2.2.2.1
  have hts := X.2.2.2.2.2.2.1
  intro x1 s1 s2 M H locs ls hm hP hS hl
  rw [fX0_countPieces_66_s] at hm
  obtain ⟨hi1, hm⟩ := xifn hm
  refine xiast X hP hS 28 xy28 hi1 dX0_countPieces_66 (fun M2 H locs eM2 hP hS => ?_)
  have hm := xltE hm eM2
  refine lv_iinc (v := x1 + (-1)) (lv' := [(1, .int (x1 + (-1))), (0, .ref (xa w 25))]) hx hb dX0_countPieces_67 hl (k := 1) rfl rfl (by decide) rfl (fun ls hl => ?_)
  refine lv_goto (tgt := 10) hx hb dX0_countPieces_70 (by decide) ?_
  exact hk10 (x1 + (-1)) M2 _ _ _ hm hP hS (lv_sub hl [1, 0] rfl)
def fX0_countPieces_54 (k10 : Int32 → xM → Option (xM)) (x1 : Int32) (s1 : Int32) (M : xM) : Option (xM) := fX0_countPieces_66 k10 x1 s1 0 M
theorem fX0_countPieces_54_s (k10 : Int32 → xM → Option (xM)) (x1 : Int32) (s1 : Int32) (M : xM) : fX0_countPieces_54 k10 x1 s1 M = (fX0_countPieces_66 k10 x1 s1 0 M) := rfl
set_option maxHeartbeats 4000000 in
set_option maxRecDepth 100000 in
theorem kX0_countPieces_54 {p : Program} {l : Launch} {e : Env} {s : State} {m : MethodId} {args : Array Value} {below : List Frame} {meth : Method} {c : Code} {w : xT} (X : xX p s m args meth c cX0_countPieces 3 none RX0 w) (V : xM) (k10 : Int32 → xM → Option (xM)) (hk10 : ∀ (x1 : Int32) (M : xM) (H : Heap) (locs : List Loc) (ls : Array Slot), k10 x1 M = some V → xP w M H → xS w s H locs → lv_has ls 3 [(0, .ref (xa w 25)), (1, .int x1)] → W p l e { frames := 1, cells := 0, slots := 0, locals := 40 } s m args below meth c H locs 0 0 (xQ w none V below args s) (F0 m 10 ls [])) : ∀ (x1 : Int32) (s1 : Int32) (M : xM) (H : Heap) (locs : List Loc) (ls : Array Slot), fX0_countPieces_54 k10 x1 s1 M = some V → xP w M H → xS w s H locs → lv_has ls 3 [(0, .ref (xa w 25)), (1, .int x1)] → W p l e { frames := 1, cells := 0, slots := 0, locals := 40 } s m args below meth c H locs 0 0 (xQ w none V below args s) (F0 m 54 ls [.int s1, .ref (xa w 28)]) := by
  have hx := X.1
  have hb := X.2.1
  have hown := X.2.2.2.2.2.1
  have hts := X.2.2.2.2.2.2.1
  intro x1 s1 M H locs ls hm hP hS hl
  rw [fX0_countPieces_54_s] at hm
  refine lv_iconst (v := 0) hx hb dX0_countPieces_54 (by decide) ?_
  refine lv_goto (tgt := 66) hx hb dX0_countPieces_55 (by decide) ?_
  exact kX0_countPieces_66 X V k10 hk10 x1 s1 0 M _ _ _ hm hP hS (lv_sub hl [0, 1] rfl)
def fX0_countPieces_10  : Nat → Int32 → xM → Option (xM)
  | 0 => fun _ _ => none
  | n + 1 => fun x1 M => if x1 < 0 then (some M) else (if xin x1 408 then xlt (x1 + (if 1 < (M 27 x1.toNatClampNeg) then (M 27 x1.toNatClampNeg) else 1)) fun y5 => (fX7_isEnd x1 M).bind fun v6 => if v6 = 0 then (if y5 < (M 4 4) then (if xin y5 408 then fX0_countPieces_66 (fX0_countPieces_10 n) x1 x1 (1 + (M 28 y5.toNatClampNeg)) M else none) else (fX0_countPieces_54 (fX0_countPieces_10 n) x1 x1 M)) else (fX0_countPieces_54 (fX0_countPieces_10 n) x1 x1 M) else none)
theorem fX0_countPieces_10_s  (n : Nat) (x1 : Int32) (M : xM) : fX0_countPieces_10  (n + 1) x1 M = (if x1 < 0 then (some M) else (if xin x1 408 then xlt (x1 + (if 1 < (M 27 x1.toNatClampNeg) then (M 27 x1.toNatClampNeg) else 1)) fun y5 => (fX7_isEnd x1 M).bind fun v6 => if v6 = 0 then (if y5 < (M 4 4) then (if xin y5 408 then fX0_countPieces_66 (fX0_countPieces_10 n) x1 x1 (1 + (M 28 y5.toNatClampNeg)) M else none) else (fX0_countPieces_54 (fX0_countPieces_10 n) x1 x1 M)) else (fX0_countPieces_54 (fX0_countPieces_10 n) x1 x1 M) else none)) := rfl
set_option maxHeartbeats 4000000 in
set_option maxRecDepth 100000 in
theorem kX0_countPieces_10 {p : Program} {l : Launch} {e : Env} {s : State} {m : MethodId} {args : Array Value} {below : List Frame} {meth : Method} {c : Code} {w : xT} (X : xX p s m args meth c cX0_countPieces 3 none RX0 w) (V : xM)  : ∀ (n : Nat) (x1 : Int32) (M : xM) (H : Heap) (locs : List Loc) (ls : Array Slot), fX0_countPieces_10  n x1 M = some V → xP w M H → xS w s H locs → lv_has ls 3 [(0, .ref (xa w 25)), (1, .int x1)] → W p l e { frames := 1, cells := 0, slots := 0, locals := 40 } s m args below meth c H locs 0 0 (xQ w none V below args s) (F0 m 10 ls []) := by
  have hx := X.1
  have hb := X.2.1
  have hown := X.2.2.2.2.2.1
  have hts := X.2.2.2.2.2.2.1
  intro n
  induction n with
  | zero => intro x1 M H locs ls hm hP hS hl; exact xnon hm
  | succ n ih =>
    intro x1 M H locs ls hm hP hS hl
    rw [fX0_countPieces_10_s] at hm
    refine lv_iload_n hx hb dX0_countPieces_10 rfl (lv_at hl 1 rfl) ?_
    refine lv_if_lt (tgt := 73) hx hb dX0_countPieces_11 (by decide) (fun c3 => ?_) (fun c3 => ?_)
    · have hm := xift c3 hm
      obtain rfl := Option.some.inj hm
      exact xvret X hP hS dX0_countPieces_73
    · have hm := xiff c3 hm
      refine lv_iload_n hx hb dX0_countPieces_14 rfl (lv_at hl 1 rfl) ?_
      refine lv_iconst (v := 1) hx hb dX0_countPieces_15 (by decide) ?_
      refine lv_aload_n hx hb dX0_countPieces_16 rfl (lv_at hl 0 rfl) ?_
      refine xget xcX0 X hP 25 1 xy25 (by decide) xf_X0_15 rfl dX0_countPieces_17 ?_
      refine lv_iload_n hx hb dX0_countPieces_20 rfl (lv_at hl 1 rfl) ?_
      obtain ⟨hi4, hm⟩ := xifn hm
      refine xiald X hP 27 xy27 hi4 dX0_countPieces_21 ?_
      refine va_mmax hx hb (X.2.2.1.trans hl.1.symm) hown (hts _ xm_X0_69) (hts _ xt_J9_max_7cf53) (hts _ xn_J9_max_7cf53) (hts _ xo_J9_max_7cf53) (by decide) (Nat.le_of_ble_eq_true rfl) (Nat.zero_le _) (Nat.zero_le _) dX0_countPieces_22 ?_
      refine lv_iadd hx hb dX0_countPieces_25 ?_
      refine lv_topi (fun y5 ey5 => ?_)
      have hm := xltE hm ey5
      refine lv_istore_n (lv' := [(2, .int y5), (0, .ref (xa w 25)), (1, .int x1)]) hx hb dX0_countPieces_26 rfl hl (by decide) rfl (fun ls hl => ?_)
      refine lv_aload_n hx hb dX0_countPieces_27 rfl (lv_at hl 1 rfl) ?_
      refine xget xcX0 X hP 25 2 xy25 (by decide) xf_X0_18 rfl dX0_countPieces_28 ?_
      refine lv_iload_n hx hb dX0_countPieces_31 rfl (lv_at hl 2 rfl) ?_
      refine lv_aload_n hx hb dX0_countPieces_32 rfl (lv_at hl 1 rfl) ?_
      refine xget xcX0 X hP 25 3 xy25 (by decide) xf_X0_30 rfl dX0_countPieces_33 ?_
      refine lv_iload_n hx hb dX0_countPieces_36 rfl (lv_at hl 2 rfl) ?_
      obtain ⟨v6, hg, hm⟩ := xbnd hm
      refine xcallV xm_X0_79 xt_X7_isEnd X hP hS (qX7_isEnd l w x1 M v6 hg) xy4 rfl ⟨Nat.le_of_ble_eq_true rfl, Nat.le_of_ble_eq_true rfl⟩ ⟨rfl, rfl⟩ hl.1 rfl (rest := [.int x1, .ref (xa w 28)]) rfl (Nat.le_of_ble_eq_true rfl) dX0_countPieces_37 ⟨Nat.zero_le _, Nat.zero_le _⟩ (fun H locs hP hS => ?_)
      refine W.eq (g2 := F0 m 40 ls [.int v6, .int x1, .ref (xa w 28)]) rfl ?_
      refine lv_if_ne (tgt := 54) hx hb dX0_countPieces_40 (by decide) (fun c7 => ?_) (fun c7 => ?_)
      · have hm := xiff c7 hm
        exact kX0_countPieces_54 X V (fX0_countPieces_10 n) ih x1 x1 M _ _ _ hm hP hS (lv_sub hl [1, 2] rfl)
      · have hm := xift c7 hm
        refine lv_iload_n hx hb dX0_countPieces_43 rfl (lv_at hl 0 rfl) ?_
        refine lv_aload_n hx hb dX0_countPieces_44 rfl (lv_at hl 1 rfl) ?_
        refine xget xcX0 X hP 25 3 xy25 (by decide) xf_X0_30 rfl dX0_countPieces_45 ?_
        refine xgeti xcX7 X hP 4 4 xy4 (by decide) xf_X0_41 rfl dX0_countPieces_48 ?_
        refine lv_icmp_lt (tgt := 58) hx hb dX0_countPieces_51 (by decide) (fun c8 => ?_) (fun c8 => ?_)
        · have hm := xift c8 hm
          refine lv_iconst (v := 1) hx hb dX0_countPieces_58 (by decide) ?_
          refine lv_aload_n hx hb dX0_countPieces_59 rfl (lv_at hl 1 rfl) ?_
          refine xget xcX0 X hP 25 2 xy25 (by decide) xf_X0_18 rfl dX0_countPieces_60 ?_
          refine lv_iload_n hx hb dX0_countPieces_63 rfl (lv_at hl 0 rfl) ?_
          obtain ⟨hi9, hm⟩ := xifn hm
          refine xiald X hP 28 xy28 hi9 dX0_countPieces_64 ?_
          refine lv_iadd hx hb dX0_countPieces_65 ?_
          exact kX0_countPieces_66 X V (fX0_countPieces_10 n) ih x1 x1 (1 + (M 28 y5.toNatClampNeg)) M _ _ _ hm hP hS (lv_sub hl [1, 2] rfl)
        · have hm := xiff c8 hm
          exact kX0_countPieces_54 X V (fX0_countPieces_10 n) ih x1 x1 M _ _ _ hm hP hS (lv_sub hl [1, 2] rfl)
def fX0_countPieces  (M : xM) : Option (xM) := fX0_countPieces_10 4096 ((M 4 4) - 1) M
theorem fX0_countPieces_s  (M : xM) : fX0_countPieces M = (fX0_countPieces_10 4096 ((M 4 4) - 1) M) := rfl
set_option maxHeartbeats 4000000 in
set_option maxRecDepth 100000 in
theorem qX0_countPieces (l : Launch) (w : xT)  (M : xM) (V : xM) (hm : fX0_countPieces M = some V) : xC l yX0_countPieces (Cond.code yX0_countPieces cX0_countPieces 3 none) { frames := 1, cells := 0, slots := 0, locals := 40 } w [.ref (xa w 25)] M none V := by
  refine xC.of (by decide) (Nat.le_of_ble_eq_true rfl) ?_
  intro p e s m args below meth c ls X hP hS hl
  have hl : lv_has ls 3 [(0, .ref (xa w 25))] := hl
  have X : xX p s m args meth c cX0_countPieces 3 none RX0 w := X
  have hx := X.1
  have hb := X.2.1
  have hown := X.2.2.2.2.2.1
  have hts := X.2.2.2.2.2.2.1
  rw [fX0_countPieces_s] at hm
  refine lv_aload_n hx hb dX0_countPieces_0 rfl (lv_at hl 0 rfl) ?_
  refine xget xcX0 X hP 25 3 xy25 (by decide) xf_X0_30 rfl dX0_countPieces_1 ?_
  refine xgeti xcX7 X hP 4 4 xy4 (by decide) xf_X0_41 rfl dX0_countPieces_4 ?_
  refine lv_iconst (v := 1) hx hb dX0_countPieces_7 (by decide) ?_
  refine lv_isub hx hb dX0_countPieces_8 ?_
  refine lv_istore_n (lv' := [(1, .int ((M 4 4) - 1)), (0, .ref (xa w 25))]) hx hb dX0_countPieces_9 rfl hl (by decide) rfl (fun ls hl => ?_)
  exact kX0_countPieces_10 X V  4096 ((M 4 4) - 1) M _ _ _ hm hP hS (lv_sub hl [1, 0] rfl)
def fX0_make_72   (M : xM) : Option (xM) := (fX0_countPieces  M).bind fun v1 => some v1
theorem fX0_make_72_s   (M : xM) : fX0_make_72  M = ((fX0_countPieces  M).bind fun v1 => some v1) := rfl
set_option maxHeartbeats 4000000 in
set_option maxRecDepth 100000 in
theorem kX0_make_72 {p : Program} {l : Launch} {e : Env} {s : State} {m : MethodId} {args : Array Value} {below : List Frame} {meth : Method} {c : Code} {w : xT} (X : xX p s m args meth c cX0_make 2 none RX0 w) (V : xM)  : ∀  (M : xM) (H : Heap) (locs : List Loc) (ls : Array Slot), fX0_make_72  M = some V → xP w M H → xS w s H locs → lv_has ls 2 [(0, .ref (xa w 25))] → W p l e { frames := 2, cells := 0, slots := 0, locals := 64 } s m args below meth c H locs 0 0 (xQ w none V below args s) (F0 m 72 ls []) := by
  have hx := X.1
  have hb := X.2.1
  have hown := X.2.2.2.2.2.1
  have hts := X.2.2.2.2.2.2.1
  intro M H locs ls hm hP hS hl
  rw [fX0_make_72_s] at hm
  refine lv_aload_n hx hb dX0_make_72 rfl (lv_at hl 0 rfl) ?_
  obtain ⟨v1, hg, hm⟩ := xbnd hm
  refine xcallV xm_X0_63 xt_X0_countPieces X hP hS (qX0_countPieces l w  M v1 hg) xy25 rfl ⟨Nat.le_of_ble_eq_true rfl, Nat.le_of_ble_eq_true rfl⟩ ⟨rfl, rfl⟩ hl.1 rfl (rest := []) rfl (Nat.le_of_ble_eq_true rfl) dX0_make_73 ⟨Nat.zero_le _, Nat.zero_le _⟩ (fun H locs hP hS => ?_)
  refine W.eq (g2 := F0 m 76 ls []) rfl ?_
  obtain rfl := Option.some.inj hm
  exact xvret X hP hS dX0_make_76
def fX0_make_44  : Nat → Int32 → xM → Option (xM)
  | 0 => fun _ _ => none
  | n + 1 => fun x1 M => if (M 4 4) ≤ x1 then (fX0_make_72  M) else ((fX0_leastLike x1 M).bind fun v3 => if xin x1 408 then xlt (xs1 M 26 x1.toNatClampNeg v3) fun M5 => fX0_make_44 n (x1 + 1) M5 else none)
theorem fX0_make_44_s  (n : Nat) (x1 : Int32) (M : xM) : fX0_make_44  (n + 1) x1 M = (if (M 4 4) ≤ x1 then (fX0_make_72  M) else ((fX0_leastLike x1 M).bind fun v3 => if xin x1 408 then xlt (xs1 M 26 x1.toNatClampNeg v3) fun M5 => fX0_make_44 n (x1 + 1) M5 else none)) := rfl
set_option maxHeartbeats 4000000 in
set_option maxRecDepth 100000 in
theorem kX0_make_44 {p : Program} {l : Launch} {e : Env} {s : State} {m : MethodId} {args : Array Value} {below : List Frame} {meth : Method} {c : Code} {w : xT} (X : xX p s m args meth c cX0_make 2 none RX0 w) (V : xM)  : ∀ (n : Nat) (x1 : Int32) (M : xM) (H : Heap) (locs : List Loc) (ls : Array Slot), fX0_make_44  n x1 M = some V → xP w M H → xS w s H locs → lv_has ls 2 [(0, .ref (xa w 25)), (1, .int x1)] → W p l e { frames := 2, cells := 0, slots := 0, locals := 64 } s m args below meth c H locs 0 0 (xQ w none V below args s) (F0 m 44 ls []) := by
  have hx := X.1
  have hb := X.2.1
  have hown := X.2.2.2.2.2.1
  have hts := X.2.2.2.2.2.2.1
  intro n
  induction n with
  | zero => intro x1 M H locs ls hm hP hS hl; exact xnon hm
  | succ n ih =>
    intro x1 M H locs ls hm hP hS hl
    rw [fX0_make_44_s] at hm
    refine lv_iload_n hx hb dX0_make_44 rfl (lv_at hl 1 rfl) ?_
    refine lv_aload_n hx hb dX0_make_45 rfl (lv_at hl 0 rfl) ?_
    refine xget xcX0 X hP 25 3 xy25 (by decide) xf_X0_30 rfl dX0_make_46 ?_
    refine xgeti xcX7 X hP 4 4 xy4 (by decide) xf_X0_41 rfl dX0_make_49 ?_
    refine lv_icmp_ge (tgt := 72) hx hb dX0_make_52 (by decide) (fun c2 => ?_) (fun c2 => ?_)
    · have hm := xift c2 hm
      exact kX0_make_72 X V  M _ _ _ hm hP hS (lv_sub hl [0] rfl)
    · have hm := xiff c2 hm
      refine lv_aload_n hx hb dX0_make_55 rfl (lv_at hl 0 rfl) ?_
      refine xget xcX0 X hP 25 0 xy25 (by decide) xf_X0_9 rfl dX0_make_56 ?_
      refine lv_iload_n hx hb dX0_make_59 rfl (lv_at hl 1 rfl) ?_
      refine lv_aload_n hx hb dX0_make_60 rfl (lv_at hl 0 rfl) ?_
      refine lv_iload_n hx hb dX0_make_61 rfl (lv_at hl 1 rfl) ?_
      obtain ⟨v3, hg, hm⟩ := xbnd hm
      refine xcallV xm_X0_59 xt_X0_leastLike X hP hS (qX0_leastLike l w x1 M v3 hg) xy25 rfl ⟨Nat.le_of_ble_eq_true rfl, Nat.le_of_ble_eq_true rfl⟩ ⟨rfl, rfl⟩ hl.1 rfl (rest := [.int x1, .ref (xa w 26)]) rfl (Nat.le_of_ble_eq_true rfl) dX0_make_62 ⟨Nat.zero_le _, Nat.zero_le _⟩ (fun H locs hP hS => ?_)
      refine W.eq (g2 := F0 m 65 ls [.int v3, .int x1, .ref (xa w 26)]) rfl ?_
      obtain ⟨hi4, hm⟩ := xifn hm
      refine xiast X hP hS 26 xy26 hi4 dX0_make_65 (fun M5 H locs eM5 hP hS => ?_)
      have hm := xltE hm eM5
      refine lv_iinc (v := x1 + 1) (lv' := [(1, .int (x1 + 1)), (0, .ref (xa w 25))]) hx hb dX0_make_66 hl (k := 1) rfl rfl (by decide) rfl (fun ls hl => ?_)
      refine lv_goto (tgt := 44) hx hb dX0_make_69 (by decide) ?_
      exact ih (x1 + 1) M5 _ _ _ hm hP hS (lv_sub hl [1, 0] rfl)
def fX0_make_42   (M : xM) : Option (xM) := fX0_make_44 4096 0 M
theorem fX0_make_42_s   (M : xM) : fX0_make_42  M = (fX0_make_44 4096 0 M) := rfl
set_option maxHeartbeats 4000000 in
set_option maxRecDepth 100000 in
theorem kX0_make_42 {p : Program} {l : Launch} {e : Env} {s : State} {m : MethodId} {args : Array Value} {below : List Frame} {meth : Method} {c : Code} {w : xT} (X : xX p s m args meth c cX0_make 2 none RX0 w) (V : xM)  : ∀  (M : xM) (H : Heap) (locs : List Loc) (ls : Array Slot), fX0_make_42  M = some V → xP w M H → xS w s H locs → lv_has ls 2 [(0, .ref (xa w 25))] → W p l e { frames := 2, cells := 0, slots := 0, locals := 64 } s m args below meth c H locs 0 0 (xQ w none V below args s) (F0 m 42 ls []) := by
  have hx := X.1
  have hb := X.2.1
  have hown := X.2.2.2.2.2.1
  have hts := X.2.2.2.2.2.2.1
  intro M H locs ls hm hP hS hl
  rw [fX0_make_42_s] at hm
  refine lv_iconst (v := 0) hx hb dX0_make_42 (by decide) ?_
  refine lv_istore_n (lv' := [(1, .int 0), (0, .ref (xa w 25))]) hx hb dX0_make_43 rfl hl (by decide) rfl (fun ls hl => ?_)
  exact kX0_make_44 X V  4096 0 M _ _ _ hm hP hS (lv_sub hl [1, 0] rfl)
def fX0_make_14  : Nat → Int32 → xM → Option (xM)
  | 0 => fun _ _ => none
  | n + 1 => fun x1 M => if x1 < 0 then (fX0_make_42  M) else ((fX0_takeLongest x1 M).bind fun v7 => if xin x1 408 then (fX0_unchain (v7 11 x1.toNatClampNeg) v7).bind fun v9 => fX0_make_14 n (x1 + (-1)) v9 else none)
theorem fX0_make_14_s  (n : Nat) (x1 : Int32) (M : xM) : fX0_make_14  (n + 1) x1 M = (if x1 < 0 then (fX0_make_42  M) else ((fX0_takeLongest x1 M).bind fun v7 => if xin x1 408 then (fX0_unchain (v7 11 x1.toNatClampNeg) v7).bind fun v9 => fX0_make_14 n (x1 + (-1)) v9 else none)) := rfl
set_option maxHeartbeats 4000000 in
set_option maxRecDepth 100000 in
theorem kX0_make_14 {p : Program} {l : Launch} {e : Env} {s : State} {m : MethodId} {args : Array Value} {below : List Frame} {meth : Method} {c : Code} {w : xT} (X : xX p s m args meth c cX0_make 2 none RX0 w) (V : xM)  : ∀ (n : Nat) (x1 : Int32) (M : xM) (H : Heap) (locs : List Loc) (ls : Array Slot), fX0_make_14  n x1 M = some V → xP w M H → xS w s H locs → lv_has ls 2 [(0, .ref (xa w 25)), (1, .int x1)] → W p l e { frames := 2, cells := 0, slots := 0, locals := 64 } s m args below meth c H locs 0 0 (xQ w none V below args s) (F0 m 14 ls []) := by
  have hx := X.1
  have hb := X.2.1
  have hown := X.2.2.2.2.2.1
  have hts := X.2.2.2.2.2.2.1
  intro n
  induction n with
  | zero => intro x1 M H locs ls hm hP hS hl; exact xnon hm
  | succ n ih =>
    intro x1 M H locs ls hm hP hS hl
    rw [fX0_make_14_s] at hm
    refine lv_iload_n hx hb dX0_make_14 rfl (lv_at hl 1 rfl) ?_
    refine lv_if_lt (tgt := 42) hx hb dX0_make_15 (by decide) (fun c6 => ?_) (fun c6 => ?_)
    · have hm := xift c6 hm
      exact kX0_make_42 X V  M _ _ _ hm hP hS (lv_sub hl [0] rfl)
    · have hm := xiff c6 hm
      refine lv_aload_n hx hb dX0_make_18 rfl (lv_at hl 0 rfl) ?_
      refine lv_iload_n hx hb dX0_make_19 rfl (lv_at hl 1 rfl) ?_
      obtain ⟨v7, hg, hm⟩ := xbnd hm
      refine xcallV xm_X0_47 xt_X0_takeLongest X hP hS (qX0_takeLongest l w x1 M v7 hg) xy25 rfl ⟨Nat.le_of_ble_eq_true rfl, Nat.le_of_ble_eq_true rfl⟩ ⟨rfl, rfl⟩ hl.1 rfl (rest := []) rfl (Nat.le_of_ble_eq_true rfl) dX0_make_20 ⟨Nat.zero_le _, Nat.zero_le _⟩ (fun H locs hP hS => ?_)
      refine W.eq (g2 := F0 m 23 ls []) rfl ?_
      refine lv_aload_n hx hb dX0_make_23 rfl (lv_at hl 0 rfl) ?_
      refine lv_aload_n hx hb dX0_make_24 rfl (lv_at hl 0 rfl) ?_
      refine xget xcX0 X hP 25 4 xy25 (by decide) xf_X0_34 rfl dX0_make_25 ?_
      refine xget xcX3 X hP 9 1 xy9 (by decide) xf_X0_51 rfl dX0_make_28 ?_
      refine lv_iload_n hx hb dX0_make_31 rfl (lv_at hl 1 rfl) ?_
      obtain ⟨hi8, hm⟩ := xifn hm
      refine xiald X hP 11 xy11 hi8 dX0_make_32 ?_
      obtain ⟨v9, hg, hm⟩ := xbnd hm
      refine xcallV xm_X0_56 xt_X0_unchain X hP hS (qX0_unchain l w (v7 11 x1.toNatClampNeg) v7 v9 hg) xy25 rfl ⟨Nat.le_of_ble_eq_true rfl, Nat.le_of_ble_eq_true rfl⟩ ⟨rfl, rfl⟩ hl.1 rfl (rest := []) rfl (Nat.le_of_ble_eq_true rfl) dX0_make_33 ⟨Nat.zero_le _, Nat.zero_le _⟩ (fun H locs hP hS => ?_)
      refine W.eq (g2 := F0 m 36 ls []) rfl ?_
      refine lv_iinc (v := x1 + (-1)) (lv' := [(1, .int (x1 + (-1))), (0, .ref (xa w 25))]) hx hb dX0_make_36 hl (k := 1) rfl rfl (by decide) rfl (fun ls hl => ?_)
      refine lv_goto (tgt := 14) hx hb dX0_make_39 (by decide) ?_
      exact ih (x1 + (-1)) v9 _ _ _ hm hP hS (lv_sub hl [1, 0] rfl)
def fX0_make  (M : xM) : Option (xM) := (fX0_chainAll  M).bind fun v10 => fX0_make_14 4096 ((v10 4 4) - 1) v10
theorem fX0_make_s  (M : xM) : fX0_make M = ((fX0_chainAll  M).bind fun v10 => fX0_make_14 4096 ((v10 4 4) - 1) v10) := rfl
set_option maxHeartbeats 4000000 in
set_option maxRecDepth 100000 in
theorem qX0_make (l : Launch) (w : xT)  (M : xM) (V : xM) (hm : fX0_make M = some V) : xC l yX0_make (Cond.code yX0_make cX0_make 2 none) { frames := 2, cells := 0, slots := 0, locals := 64 } w [.ref (xa w 25)] M none V := by
  refine xC.of (by decide) (Nat.le_of_ble_eq_true rfl) ?_
  intro p e s m args below meth c ls X hP hS hl
  have hl : lv_has ls 2 [(0, .ref (xa w 25))] := hl
  have X : xX p s m args meth c cX0_make 2 none RX0 w := X
  have hx := X.1
  have hb := X.2.1
  have hown := X.2.2.2.2.2.1
  have hts := X.2.2.2.2.2.2.1
  rw [fX0_make_s] at hm
  refine lv_aload_n hx hb dX0_make_0 rfl (lv_at hl 0 rfl) ?_
  obtain ⟨v10, hg, hm⟩ := xbnd hm
  refine xcallV xm_X0_38 xt_X0_chainAll X hP hS (qX0_chainAll l w  M v10 hg) xy25 rfl ⟨Nat.le_of_ble_eq_true rfl, Nat.le_of_ble_eq_true rfl⟩ ⟨rfl, rfl⟩ hl.1 rfl (rest := []) rfl (Nat.le_of_ble_eq_true rfl) dX0_make_1 ⟨Nat.zero_le _, Nat.zero_le _⟩ (fun H locs hP hS => ?_)
  refine W.eq (g2 := F0 m 4 ls []) rfl ?_
  refine lv_aload_n hx hb dX0_make_4 rfl (lv_at hl 0 rfl) ?_
  refine xget xcX0 X hP 25 3 xy25 (by decide) xf_X0_30 rfl dX0_make_5 ?_
  refine xgeti xcX7 X hP 4 4 xy4 (by decide) xf_X0_41 rfl dX0_make_8 ?_
  refine lv_iconst (v := 1) hx hb dX0_make_11 (by decide) ?_
  refine lv_isub hx hb dX0_make_12 ?_
  refine lv_istore_n (lv' := [(1, .int ((v10 4 4) - 1)), (0, .ref (xa w 25))]) hx hb dX0_make_13 rfl hl (by decide) rfl (fun ls hl => ?_)
  exact kX0_make_14 X V  4096 ((v10 4 4) - 1) v10 _ _ _ hm hP hS (lv_sub hl [1, 0] rfl)
def fX1_reset  (M : xM) : Option (xM) := if xcin 0 0 (M 4 4) 408 408 then xlt (xcp M 10 36 0 0 (M 4 4)) fun M2 => some M2 else none
theorem fX1_reset_s  (M : xM) : fX1_reset M = (if xcin 0 0 (M 4 4) 408 408 then xlt (xcp M 10 36 0 0 (M 4 4)) fun M2 => some M2 else none) := rfl
set_option maxHeartbeats 4000000 in
set_option maxRecDepth 100000 in
theorem qX1_reset (l : Launch) (w : xT)  (M : xM) (V : xM) (hm : fX1_reset M = some V) : xC l yX1_reset (Cond.code yX1_reset cX1_reset 1 none) { frames := 1, cells := 0, slots := 0, locals := 40 } w [.ref (xa w 35)] M none V := by
  refine xC.of (by decide) (Nat.le_of_ble_eq_true rfl) ?_
  intro p e s m args below meth c ls X hP hS hl
  have hl : lv_has ls 1 [(0, .ref (xa w 35))] := hl
  have X : xX p s m args meth c cX1_reset 1 none RX1 w := X
  have hx := X.1
  have hb := X.2.1
  have hown := X.2.2.2.2.2.1
  have hts := X.2.2.2.2.2.2.1
  rw [fX1_reset_s] at hm
  refine lv_aload_n hx hb dX1_reset_0 rfl (lv_at hl 0 rfl) ?_
  refine xget xcX1 X hP 35 2 xy35 (by decide) xf_X1_19 rfl dX1_reset_1 ?_
  refine xget xcX3 X hP 9 0 xy9 (by decide) xf_X1_23 rfl dX1_reset_4 ?_
  refine lv_iconst (v := 0) hx hb dX1_reset_7 (by decide) ?_
  refine lv_aload_n hx hb dX1_reset_8 rfl (lv_at hl 0 rfl) ?_
  refine xget xcX1 X hP 35 0 xy35 (by decide) xf_X1_9 rfl dX1_reset_9 ?_
  refine lv_iconst (v := 0) hx hb dX1_reset_12 (by decide) ?_
  refine lv_aload_n hx hb dX1_reset_13 rfl (lv_at hl 0 rfl) ?_
  refine xget xcX1 X hP 35 1 xy35 (by decide) xf_X1_15 rfl dX1_reset_14 ?_
  refine xgeti xcX7 X hP 4 4 xy4 (by decide) xf_X1_28 rfl dX1_reset_17 ?_
  obtain ⟨hi1, hm⟩ := xifn hm
  refine xcopy xm_X1_34 xac1 xac2 xac3 X hP hS 10 36 xy10 xy36 hi1 hl.1 (by decide) (by decide) dX1_reset_20 (fun M2 H locs eM2 hP hS => ?_)
  have hm := xltE hm eM2
  obtain rfl := Option.some.inj hm
  exact xvret X hP hS dX1_reset_23
def fX8_build  (M : xM) : Option (Int32 × xM) := (fX7_lay  M).bind fun v1 => (fX3_make  v1).bind fun v2 => (fX0_make  v2).bind fun v3 => (fX1_reset  v3).bind fun v4 => some (v4 4 4, v4)
theorem fX8_build_s  (M : xM) : fX8_build M = ((fX7_lay  M).bind fun v1 => (fX3_make  v1).bind fun v2 => (fX0_make  v2).bind fun v3 => (fX1_reset  v3).bind fun v4 => some (v4 4 4, v4)) := rfl
set_option maxHeartbeats 4000000 in
set_option maxRecDepth 100000 in
theorem qX8_build (l : Launch) (w : xT)  (M : xM) (V : Int32 × xM) (hm : fX8_build M = some V) : xC l yX8_build (Cond.code yX8_build cX8_build 1 (some .int)) { frames := 7, cells := 0, slots := 0, locals := 158 } w [.ref (xa w 0)] M (some (.int V.1)) V.2 := by
  refine xC.of (by decide) (Nat.le_of_ble_eq_true rfl) ?_
  intro p e s m args below meth c ls X hP hS hl
  have hl : lv_has ls 1 [(0, .ref (xa w 0))] := hl
  have X : xX p s m args meth c cX8_build 1 (some .int) RX8 w := X
  have hx := X.1
  have hb := X.2.1
  have hown := X.2.2.2.2.2.1
  have hts := X.2.2.2.2.2.2.1
  rw [fX8_build_s] at hm
  refine lv_aload_n hx hb dX8_build_0 rfl (lv_at hl 0 rfl) ?_
  refine xget xcX8 X hP 0 1 xy0 (by decide) xf_X8_19 rfl dX8_build_1 ?_
  refine lv_aload_n hx hb dX8_build_4 rfl (lv_at hl 0 rfl) ?_
  refine xget xcX8 X hP 0 0 xy0 (by decide) xf_X8_12 rfl dX8_build_5 ?_
  obtain ⟨v1, hg, hm⟩ := xbnd hm
  refine xcallV xm_X8_85 xt_X7_lay X hP hS (qX7_lay l w  M v1 hg) xy4 rfl ⟨Nat.le_of_ble_eq_true rfl, Nat.le_of_ble_eq_true rfl⟩ ⟨rfl, rfl⟩ hl.1 rfl (rest := []) rfl (Nat.le_of_ble_eq_true rfl) dX8_build_8 ⟨Nat.zero_le _, Nat.zero_le _⟩ (fun H locs hP hS => ?_)
  refine W.eq (g2 := F0 m 11 ls []) rfl ?_
  refine lv_aload_n hx hb dX8_build_11 rfl (lv_at hl 0 rfl) ?_
  refine xget xcX8 X hP 0 2 xy0 (by decide) xf_X8_28 rfl dX8_build_12 ?_
  obtain ⟨v2, hg, hm⟩ := xbnd hm
  refine xcallV xm_X8_89 xt_X3_make X hP hS (qX3_make l w  v1 v2 hg) xy9 rfl ⟨Nat.le_of_ble_eq_true rfl, Nat.le_of_ble_eq_true rfl⟩ ⟨rfl, rfl⟩ hl.1 rfl (rest := []) rfl (Nat.le_of_ble_eq_true rfl) dX8_build_15 ⟨Nat.zero_le _, Nat.zero_le _⟩ (fun H locs hP hS => ?_)
  refine W.eq (g2 := F0 m 18 ls []) rfl ?_
  refine lv_aload_n hx hb dX8_build_18 rfl (lv_at hl 0 rfl) ?_
  refine xget xcX8 X hP 0 3 xy0 (by decide) xf_X8_37 rfl dX8_build_19 ?_
  obtain ⟨v3, hg, hm⟩ := xbnd hm
  refine xcallV xm_X8_92 xt_X0_make X hP hS (qX0_make l w  v2 v3 hg) xy25 rfl ⟨Nat.le_of_ble_eq_true rfl, Nat.le_of_ble_eq_true rfl⟩ ⟨rfl, rfl⟩ hl.1 rfl (rest := []) rfl (Nat.le_of_ble_eq_true rfl) dX8_build_22 ⟨Nat.zero_le _, Nat.zero_le _⟩ (fun H locs hP hS => ?_)
  refine W.eq (g2 := F0 m 25 ls []) rfl ?_
  refine lv_aload_n hx hb dX8_build_25 rfl (lv_at hl 0 rfl) ?_
  refine xget xcX8 X hP 0 6 xy0 (by decide) xf_X8_58 rfl dX8_build_26 ?_
  obtain ⟨v4, hg, hm⟩ := xbnd hm
  refine xcallV xm_X8_93 xt_X1_reset X hP hS (qX1_reset l w  v3 v4 hg) xy35 rfl ⟨Nat.le_of_ble_eq_true rfl, Nat.le_of_ble_eq_true rfl⟩ ⟨rfl, rfl⟩ hl.1 rfl (rest := []) rfl (Nat.le_of_ble_eq_true rfl) dX8_build_29 ⟨Nat.zero_le _, Nat.zero_le _⟩ (fun H locs hP hS => ?_)
  refine W.eq (g2 := F0 m 32 ls []) rfl ?_
  refine lv_aload_n hx hb dX8_build_32 rfl (lv_at hl 0 rfl) ?_
  refine xget xcX8 X hP 0 1 xy0 (by decide) xf_X8_19 rfl dX8_build_33 ?_
  refine xgeti xcX7 X hP 4 4 xy4 (by decide) xf_X8_96 rfl dX8_build_36 ?_
  obtain rfl := Option.some.inj hm
  exact xiret X hP hS dX8_build_39
def fX9_common0 (x1 : Int32) (x2 : Int32) (M0 : xM) : Option (Int32) := if xin ((408 * x1) + x2) 166464 then some (M0 43 ((408 * x1) + x2).toNatClampNeg) else none
theorem fX9_common0_s (x1 : Int32) (x2 : Int32) (M0 : xM) : fX9_common0 x1 x2 M0 = (if xin ((408 * x1) + x2) 166464 then some (M0 43 ((408 * x1) + x2).toNatClampNeg) else none) := rfl
set_option maxHeartbeats 4000000 in
set_option maxRecDepth 100000 in
theorem qX9_common0 (l : Launch) (w : xT) (x1 : Int32) (x2 : Int32) (M0 : xM) (V : Int32) (hm : fX9_common0 x1 x2 M0 = some V) : xC l yX9_common0 (Cond.code yX9_common0 cX9_common0 3 (some .int)) { frames := 0, cells := 0, slots := 0, locals := 0 } w [.ref (xa w 37), .int x1, .int x2] M0 (some (.int V)) M0 := by
  refine xC.of (by decide) (Nat.le_of_ble_eq_true rfl) ?_
  intro p e s m args below meth c ls X hP hS hl
  have hl : lv_has ls 3 [(0, .ref (xa w 37)), (1, .int x1), (2, .int x2)] := hl
  have X : xX p s m args meth c cX9_common0 3 (some .int) RX9 w := X
  have hx := X.1
  have hb := X.2.1
  have hown := X.2.2.2.2.2.1
  have hts := X.2.2.2.2.2.2.1
  rw [fX9_common0_s] at hm
  refine lv_aload_n hx hb dX9_common0_0 rfl (lv_at hl 0 rfl) ?_
  refine xget xcX9 X hP 37 7 xy37 (by decide) xf_X9_26 rfl dX9_common0_1 ?_
  refine lv_sipush (v := 408) hx hb dX9_common0_4 (by decide) ?_
  refine lv_iload_n hx hb dX9_common0_7 rfl (lv_at hl 1 rfl) ?_
  refine lv_imul hx hb dX9_common0_8 ?_
  refine lv_iload_n hx hb dX9_common0_9 rfl (lv_at hl 2 rfl) ?_
  refine lv_iadd hx hb dX9_common0_10 ?_
  obtain ⟨hi1, hm⟩ := xifn hm
  refine xiald X hP 43 xy43 hi1 dX9_common0_11 ?_
  obtain rfl := Option.some.inj hm
  exact xiret X hP hS dX9_common0_12
def fX9_isLess_52  (x4 : Int32) (x5 : Int32) (M0 : xM) : Option (Int32) := if x5 ≤ x4 then (some 0) else (some 1)
theorem fX9_isLess_52_s  (x4 : Int32) (x5 : Int32) (M0 : xM) : fX9_isLess_52  x4 x5 M0 = (if x5 ≤ x4 then (some 0) else (some 1)) := rfl
set_option maxHeartbeats 4000000 in
set_option maxRecDepth 100000 in
theorem kX9_isLess_52 {p : Program} {l : Launch} {e : Env} {s : State} {m : MethodId} {args : Array Value} {below : List Frame} {meth : Method} {c : Code} {w : xT} (X : xX p s m args meth c cX9_isLess 6 (some .boolean) RX9 w) (V : Int32)  : ∀ (x4 : Int32) (x5 : Int32) (M0 : xM) (H : Heap) (locs : List Loc) (ls : Array Slot), fX9_isLess_52  x4 x5 M0 = some V → xP w M0 H → xS w s H locs → lv_has ls 6 [(4, .int x4), (5, .int x5)] → W p l e { frames := 1, cells := 0, slots := 0, locals := 22 } s m args below meth c H locs 0 0 (xQ w (some (.int V)) M0 below args s) (F0 m 52 ls []) := by
  have hx := X.1
  have hb := X.2.1
  have hown := X.2.2.2.2.2.1
  have hts := X.2.2.2.2.2.2.1
  intro x4 x5 M0 H locs ls hm hP hS hl
  rw [fX9_isLess_52_s] at hm
  refine lv_iload hx hb dX9_isLess_52 (lv_at hl 0 rfl) ?_
  refine lv_iload hx hb dX9_isLess_54 (lv_at hl 1 rfl) ?_
  refine lv_icmp_ge (tgt := 63) hx hb dX9_isLess_56 (by decide) (fun c1 => ?_) (fun c1 => ?_)
  · have hm := xift c1 hm
    refine lv_iconst (v := 0) hx hb dX9_isLess_63 (by decide) ?_
    obtain rfl := Option.some.inj hm
    exact xzret X hP hS rfl dX9_isLess_64
  · have hm := xiff c1 hm
    refine lv_iconst (v := 1) hx hb dX9_isLess_59 (by decide) ?_
    refine lv_goto (tgt := 64) hx hb dX9_isLess_60 (by decide) ?_
    obtain rfl := Option.some.inj hm
    exact xzret X hP hS rfl dX9_isLess_64
def fX9_isLess (x1 : Int32) (x2 : Int32) (M0 : xM) : Option (Int32) := (fX9_common0 x1 x2 M0).bind fun v2 => if xin (x1 + v2) 408 then xlt (M0 40 (x1 + v2).toNatClampNeg) fun y4 => if xin (x2 + v2) 408 then xlt (M0 40 (x2 + v2).toNatClampNeg) fun y6 => if 0 ≤ y4 then (fX9_isLess_52 y4 y6 M0) else (if 0 ≤ y6 then (fX9_isLess_52 y4 y6 M0) else (if y4 ≤ y6 then (some 0) else (some 1))) else none else none
theorem fX9_isLess_s (x1 : Int32) (x2 : Int32) (M0 : xM) : fX9_isLess x1 x2 M0 = ((fX9_common0 x1 x2 M0).bind fun v2 => if xin (x1 + v2) 408 then xlt (M0 40 (x1 + v2).toNatClampNeg) fun y4 => if xin (x2 + v2) 408 then xlt (M0 40 (x2 + v2).toNatClampNeg) fun y6 => if 0 ≤ y4 then (fX9_isLess_52 y4 y6 M0) else (if 0 ≤ y6 then (fX9_isLess_52 y4 y6 M0) else (if y4 ≤ y6 then (some 0) else (some 1))) else none else none) := rfl
set_option maxHeartbeats 4000000 in
set_option maxRecDepth 100000 in
theorem qX9_isLess (l : Launch) (w : xT) (x1 : Int32) (x2 : Int32) (M0 : xM) (V : Int32) (hm : fX9_isLess x1 x2 M0 = some V) : xC l yX9_isLess (Cond.code yX9_isLess cX9_isLess 6 (some .boolean)) { frames := 1, cells := 0, slots := 0, locals := 22 } w [.ref (xa w 37), .int x1, .int x2] M0 (some (.int V)) M0 := by
  refine xC.of (by decide) (Nat.le_of_ble_eq_true rfl) ?_
  intro p e s m args below meth c ls X hP hS hl
  have hl : lv_has ls 6 [(0, .ref (xa w 37)), (1, .int x1), (2, .int x2)] := hl
  have X : xX p s m args meth c cX9_isLess 6 (some .boolean) RX9 w := X
  have hx := X.1
  have hb := X.2.1
  have hown := X.2.2.2.2.2.1
  have hts := X.2.2.2.2.2.2.1
  rw [fX9_isLess_s] at hm
  refine lv_aload_n hx hb dX9_isLess_0 rfl (lv_at hl 0 rfl) ?_
  refine lv_iload_n hx hb dX9_isLess_1 rfl (lv_at hl 1 rfl) ?_
  refine lv_iload_n hx hb dX9_isLess_2 rfl (lv_at hl 2 rfl) ?_
  obtain ⟨v2, hg, hm⟩ := xbnd hm
  refine xcallV xm_X9_70 xt_X9_common0 X hP hS (qX9_common0 l w x1 x2 M0 v2 hg) xy37 rfl ⟨Nat.le_of_ble_eq_true rfl, Nat.le_of_ble_eq_true rfl⟩ ⟨rfl, rfl⟩ hl.1 rfl (rest := []) rfl (Nat.le_of_ble_eq_true rfl) dX9_isLess_3 ⟨Nat.zero_le _, Nat.zero_le _⟩ (fun H locs hP hS => ?_)
  refine W.eq (g2 := F0 m 6 ls [.int v2]) rfl ?_
  refine lv_istore_n (lv' := [(3, .int v2), (0, .ref (xa w 37)), (1, .int x1), (2, .int x2)]) hx hb dX9_isLess_6 rfl hl (by decide) rfl (fun ls hl => ?_)
  refine lv_aload_n hx hb dX9_isLess_7 rfl (lv_at hl 1 rfl) ?_
  refine xget xcX9 X hP 37 3 xy37 (by decide) xf_X9_16 rfl dX9_isLess_8 ?_
  refine lv_iload_n hx hb dX9_isLess_11 rfl (lv_at hl 2 rfl) ?_
  refine lv_iload_n hx hb dX9_isLess_12 rfl (lv_at hl 0 rfl) ?_
  refine lv_iadd hx hb dX9_isLess_13 ?_
  obtain ⟨hi3, hm⟩ := xifn hm
  refine xiald X hP 40 xy40 hi3 dX9_isLess_14 ?_
  refine lv_topi (fun y4 ey4 => ?_)
  have hm := xltE hm ey4
  refine lv_istore (lv' := [(4, .int y4), (3, .int v2), (0, .ref (xa w 37)), (1, .int x1), (2, .int x2)]) hx hb dX9_isLess_15 hl (by decide) rfl (fun ls hl => ?_)
  refine lv_aload_n hx hb dX9_isLess_17 rfl (lv_at hl 2 rfl) ?_
  refine xget xcX9 X hP 37 3 xy37 (by decide) xf_X9_16 rfl dX9_isLess_18 ?_
  refine lv_iload_n hx hb dX9_isLess_21 rfl (lv_at hl 4 rfl) ?_
  refine lv_iload_n hx hb dX9_isLess_22 rfl (lv_at hl 1 rfl) ?_
  refine lv_iadd hx hb dX9_isLess_23 ?_
  obtain ⟨hi5, hm⟩ := xifn hm
  refine xiald X hP 40 xy40 hi5 dX9_isLess_24 ?_
  refine lv_topi (fun y6 ey6 => ?_)
  have hm := xltE hm ey6
  refine lv_istore (lv' := [(5, .int y6), (4, .int y4), (3, .int v2), (0, .ref (xa w 37)), (1, .int x1), (2, .int x2)]) hx hb dX9_isLess_25 hl (by decide) rfl (fun ls hl => ?_)
  refine lv_iload hx hb dX9_isLess_27 (lv_at hl 1 rfl) ?_
  refine lv_if_ge (tgt := 52) hx hb dX9_isLess_29 (by decide) (fun c7 => ?_) (fun c7 => ?_)
  · have hm := xift c7 hm
    exact kX9_isLess_52 X V  y4 y6 M0 _ _ _ hm hP hS (lv_sub hl [1, 0] rfl)
  · have hm := xiff c7 hm
    refine lv_iload hx hb dX9_isLess_32 (lv_at hl 0 rfl) ?_
    refine lv_if_ge (tgt := 52) hx hb dX9_isLess_34 (by decide) (fun c8 => ?_) (fun c8 => ?_)
    · have hm := xift c8 hm
      exact kX9_isLess_52 X V  y4 y6 M0 _ _ _ hm hP hS (lv_sub hl [1, 0] rfl)
    · have hm := xiff c8 hm
      refine lv_iload hx hb dX9_isLess_37 (lv_at hl 1 rfl) ?_
      refine lv_iload hx hb dX9_isLess_39 (lv_at hl 0 rfl) ?_
      refine lv_icmp_le (tgt := 48) hx hb dX9_isLess_41 (by decide) (fun c9 => ?_) (fun c9 => ?_)
      · have hm := xift c9 hm
        refine lv_iconst (v := 0) hx hb dX9_isLess_48 (by decide) ?_
        refine lv_goto (tgt := 64) hx hb dX9_isLess_49 (by decide) ?_
        obtain rfl := Option.some.inj hm
        exact xzret X hP hS rfl dX9_isLess_64
      · have hm := xiff c9 hm
        refine lv_iconst (v := 1) hx hb dX9_isLess_44 (by decide) ?_
        refine lv_goto (tgt := 64) hx hb dX9_isLess_45 (by decide) ?_
        obtain rfl := Option.some.inj hm
        exact xzret X hP hS rfl dX9_isLess_64
