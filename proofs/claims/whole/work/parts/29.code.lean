def fX2_firstReaching_51 (k10 : Int32 → Int32 → Int32 → xM → Option (Int32)) (x1 : Int32) (x2 : Int32) (x3 : Int32) (M0 : xM) : Option (Int32) := k10 x1 x2 x3 M0
theorem fX2_firstReaching_51_s (k10 : Int32 → Int32 → Int32 → xM → Option (Int32)) (x1 : Int32) (x2 : Int32) (x3 : Int32) (M0 : xM) : fX2_firstReaching_51 k10 x1 x2 x3 M0 = (k10 x1 x2 x3 M0) := rfl
set_option maxHeartbeats 4000000 in
set_option maxRecDepth 100000 in
theorem kX2_firstReaching_51 {p : Program} {l : Launch} {e : Env} {s : State} {m : MethodId} {args : Array Value} {below : List Frame} {meth : Method} {c : Code} {w : xT} (X : xX p s m args meth c cX2_firstReaching 5 (some .int) RX2 w) (V : Int32) (k10 : Int32 → Int32 → Int32 → xM → Option (Int32)) (hk10 : ∀ (x1 : Int32) (x2 : Int32) (x3 : Int32) (M : xM) (H : Heap) (locs : List Loc) (ls : Array Slot), k10 x1 x2 x3 M = some V → xP w M H → xS w s H locs → lv_has ls 5 [(0, .ref (xa w 32)), (1, .int x1), (2, .int x2), (3, .int x3)] → W p l e { frames := 2, cells := 0, slots := 0, locals := 44 } s m args below meth c H locs 0 0 (xQ w (some (.int V)) M below args s) (F0 m 10 ls [])) : ∀ (x1 : Int32) (x2 : Int32) (x3 : Int32) (M0 : xM) (H : Heap) (locs : List Loc) (ls : Array Slot), fX2_firstReaching_51 k10 x1 x2 x3 M0 = some V → xP w M0 H → xS w s H locs → lv_has ls 5 [(0, .ref (xa w 32)), (1, .int x1), (2, .int x2), (3, .int x3)] → W p l e { frames := 2, cells := 0, slots := 0, locals := 44 } s m args below meth c H locs 0 0 (xQ w (some (.int V)) M0 below args s) (F0 m 51 ls []) := by
  have hx := X.1
  have hb := X.2.1
  have hown := X.2.2.2.2.2.1
  have hts := X.2.2.2.2.2.2.1
  intro x1 x2 x3 M0 H locs ls hm hP hS hl
  rw [fX2_firstReaching_51_s] at hm
  refine lv_goto (tgt := 10) hx hb dX2_firstReaching_51 (by decide) ?_
  exact hk10 x1 x2 x3 M0 _ _ _ hm hP hS (lv_sub hl [0, 1, 2, 3] rfl)
def fX2_firstReaching_10  : Nat → Int32 → Int32 → Int32 → xM → Option (Int32)
  | 0 => fun _ _ _ _ => none
  | n + 1 => fun x1 x2 x3 M0 => if x3 ≤ x2 then (some x2) else (if xin ((x2 + x3) / 2) 408 then (fX2_sideOf (M0 10 ((x2 + x3) / 2).toNatClampNeg) M0).bind fun v3 => if x1 ≤ v3 then (fX2_firstReaching_51 (fX2_firstReaching_10 n) x1 x2 ((x2 + x3) / 2) M0) else (fX2_firstReaching_51 (fX2_firstReaching_10 n) x1 (((x2 + x3) / 2) + 1) x3 M0) else none)
theorem fX2_firstReaching_10_s  (n : Nat) (x1 : Int32) (x2 : Int32) (x3 : Int32) (M0 : xM) : fX2_firstReaching_10  (n + 1) x1 x2 x3 M0 = (if x3 ≤ x2 then (some x2) else (if xin ((x2 + x3) / 2) 408 then (fX2_sideOf (M0 10 ((x2 + x3) / 2).toNatClampNeg) M0).bind fun v3 => if x1 ≤ v3 then (fX2_firstReaching_51 (fX2_firstReaching_10 n) x1 x2 ((x2 + x3) / 2) M0) else (fX2_firstReaching_51 (fX2_firstReaching_10 n) x1 (((x2 + x3) / 2) + 1) x3 M0) else none)) := rfl
set_option maxHeartbeats 4000000 in
set_option maxRecDepth 100000 in
theorem kX2_firstReaching_10 {p : Program} {l : Launch} {e : Env} {s : State} {m : MethodId} {args : Array Value} {below : List Frame} {meth : Method} {c : Code} {w : xT} (X : xX p s m args meth c cX2_firstReaching 5 (some .int) RX2 w) (V : Int32)  : ∀ (n : Nat) (x1 : Int32) (x2 : Int32) (x3 : Int32) (M0 : xM) (H : Heap) (locs : List Loc) (ls : Array Slot), fX2_firstReaching_10  n x1 x2 x3 M0 = some V → xP w M0 H → xS w s H locs → lv_has ls 5 [(0, .ref (xa w 32)), (1, .int x1), (2, .int x2), (3, .int x3)] → W p l e { frames := 2, cells := 0, slots := 0, locals := 44 } s m args below meth c H locs 0 0 (xQ w (some (.int V)) M0 below args s) (F0 m 10 ls []) := by
  have hx := X.1
  have hb := X.2.1
  have hown := X.2.2.2.2.2.1
  have hts := X.2.2.2.2.2.2.1
  intro n
  induction n with
  | zero => intro x1 x2 x3 M0 H locs ls hm hP hS hl; exact xnon hm
  | succ n ih =>
    intro x1 x2 x3 M0 H locs ls hm hP hS hl
    rw [fX2_firstReaching_10_s] at hm
    refine lv_iload_n hx hb dX2_firstReaching_10 rfl (lv_at hl 2 rfl) ?_
    refine lv_iload_n hx hb dX2_firstReaching_11 rfl (lv_at hl 3 rfl) ?_
    refine lv_icmp_ge (tgt := 54) hx hb dX2_firstReaching_12 (by decide) (fun c1 => ?_) (fun c1 => ?_)
    · have hm := xift c1 hm
      refine lv_iload_n hx hb dX2_firstReaching_54 rfl (lv_at hl 2 rfl) ?_
      obtain rfl := Option.some.inj hm
      exact xiret X hP hS dX2_firstReaching_55
    · have hm := xiff c1 hm
      refine lv_iload_n hx hb dX2_firstReaching_15 rfl (lv_at hl 2 rfl) ?_
      refine lv_iload_n hx hb dX2_firstReaching_16 rfl (lv_at hl 3 rfl) ?_
      refine lv_iadd hx hb dX2_firstReaching_17 ?_
      refine lv_iconst (v := 2) hx hb dX2_firstReaching_18 (by decide) ?_
      refine lv_idiv hx hb dX2_firstReaching_19 (by decide) ?_
      refine lv_istore (lv' := [(4, .int ((x2 + x3) / 2)), (0, .ref (xa w 32)), (1, .int x1), (2, .int x2), (3, .int x3)]) hx hb dX2_firstReaching_20 hl (by decide) rfl (fun ls hl => ?_)
      refine lv_aload_n hx hb dX2_firstReaching_22 rfl (lv_at hl 1 rfl) ?_
      refine lv_aload_n hx hb dX2_firstReaching_23 rfl (lv_at hl 1 rfl) ?_
      refine xget xcX2 X hP 32 2 xy32 (by decide) xf_X2_19 rfl dX2_firstReaching_24 ?_
      refine xget xcX3 X hP 9 0 xy9 (by decide) xf_X2_32 rfl dX2_firstReaching_27 ?_
      refine lv_iload hx hb dX2_firstReaching_30 (lv_at hl 0 rfl) ?_
      obtain ⟨hi2, hm⟩ := xifn hm
      refine xiald X hP 10 xy10 hi2 dX2_firstReaching_32 ?_
      obtain ⟨v3, hg, hm⟩ := xbnd hm
      refine xcallV xm_X2_37 xt_X2_sideOf X hP hS (qX2_sideOf l w (M0 10 ((x2 + x3) / 2).toNatClampNeg) M0 v3 hg) xy32 rfl ⟨Nat.le_of_ble_eq_true rfl, Nat.le_of_ble_eq_true rfl⟩ ⟨rfl, rfl⟩ hl.1 rfl (rest := []) rfl (Nat.le_of_ble_eq_true rfl) dX2_firstReaching_33 ⟨Nat.zero_le _, Nat.zero_le _⟩ (fun H locs hP hS => ?_)
      refine W.eq (g2 := F0 m 36 ls [.int v3]) rfl ?_
      refine lv_iload_n hx hb dX2_firstReaching_36 rfl (lv_at hl 2 rfl) ?_
      refine lv_icmp_ge (tgt := 48) hx hb dX2_firstReaching_37 (by decide) (fun c4 => ?_) (fun c4 => ?_)
      · have hm := xift c4 hm
        refine lv_iload hx hb dX2_firstReaching_48 (lv_at hl 0 rfl) ?_
        refine lv_istore_n (lv' := [(3, .int ((x2 + x3) / 2)), (4, .int ((x2 + x3) / 2)), (0, .ref (xa w 32)), (1, .int x1), (2, .int x2)]) hx hb dX2_firstReaching_50 rfl hl (by decide) rfl (fun ls hl => ?_)
        exact kX2_firstReaching_51 X V (fX2_firstReaching_10 n) ih x1 x2 ((x2 + x3) / 2) M0 _ _ _ hm hP hS (lv_sub hl [2, 3, 4, 0] rfl)
      · have hm := xiff c4 hm
        refine lv_iload hx hb dX2_firstReaching_40 (lv_at hl 0 rfl) ?_
        refine lv_iconst (v := 1) hx hb dX2_firstReaching_42 (by decide) ?_
        refine lv_iadd hx hb dX2_firstReaching_43 ?_
        refine lv_istore_n (lv' := [(2, .int (((x2 + x3) / 2) + 1)), (4, .int ((x2 + x3) / 2)), (0, .ref (xa w 32)), (1, .int x1), (3, .int x3)]) hx hb dX2_firstReaching_44 rfl hl (by decide) rfl (fun ls hl => ?_)
        refine lv_goto (tgt := 51) hx hb dX2_firstReaching_45 (by decide) ?_
        exact kX2_firstReaching_51 X V (fX2_firstReaching_10 n) ih x1 (((x2 + x3) / 2) + 1) x3 M0 _ _ _ hm hP hS (lv_sub hl [2, 3, 0, 4] rfl)
def fX2_firstReaching (x1 : Int32) (M0 : xM) : Option (Int32) := fX2_firstReaching_10 4096 x1 0 (M0 4 4) M0
theorem fX2_firstReaching_s (x1 : Int32) (M0 : xM) : fX2_firstReaching x1 M0 = (fX2_firstReaching_10 4096 x1 0 (M0 4 4) M0) := rfl
set_option maxHeartbeats 4000000 in
set_option maxRecDepth 100000 in
theorem qX2_firstReaching (l : Launch) (w : xT) (x1 : Int32) (M0 : xM) (V : Int32) (hm : fX2_firstReaching x1 M0 = some V) : xC l yX2_firstReaching (Cond.code yX2_firstReaching cX2_firstReaching 5 (some .int)) { frames := 2, cells := 0, slots := 0, locals := 44 } w [.ref (xa w 32), .int x1] M0 (some (.int V)) M0 := by
  refine xC.of (by decide) (Nat.le_of_ble_eq_true rfl) ?_
  intro p e s m args below meth c ls X hP hS hl
  have hl : lv_has ls 5 [(0, .ref (xa w 32)), (1, .int x1)] := hl
  have X : xX p s m args meth c cX2_firstReaching 5 (some .int) RX2 w := X
  have hx := X.1
  have hb := X.2.1
  have hown := X.2.2.2.2.2.1
  have hts := X.2.2.2.2.2.2.1
  rw [fX2_firstReaching_s] at hm
  refine lv_iconst (v := 0) hx hb dX2_firstReaching_0 (by decide) ?_
  refine lv_istore_n (lv' := [(2, .int 0), (0, .ref (xa w 32)), (1, .int x1)]) hx hb dX2_firstReaching_1 rfl hl (by decide) rfl (fun ls hl => ?_)
  refine lv_aload_n hx hb dX2_firstReaching_2 rfl (lv_at hl 1 rfl) ?_
  refine xget xcX2 X hP 32 1 xy32 (by decide) xf_X2_15 rfl dX2_firstReaching_3 ?_
  refine xgeti xcX7 X hP 4 4 xy4 (by decide) xf_X2_27 rfl dX2_firstReaching_6 ?_
  refine lv_istore_n (lv' := [(3, .int (M0 4 4)), (2, .int 0), (0, .ref (xa w 32)), (1, .int x1)]) hx hb dX2_firstReaching_9 rfl hl (by decide) rfl (fun ls hl => ?_)
  exact kX2_firstReaching_10 X V  4096 x1 0 (M0 4 4) M0 _ _ _ hm hP hS (lv_sub hl [2, 3, 1, 0] rfl)
def fX2_longestBeginning_22  (x1 : Int32) (x2 : Int32) (M0 : xM) : Option (Int32) := if (M0 4 4) ≤ x1 then (some x2) else (if xin x1 408 then (fX2_alikeAt (M0 10 x1.toNatClampNeg) M0).bind fun v3 => xlt ((if x2 < v3 then v3 else x2)) fun y4 => some y4 else none)
theorem fX2_longestBeginning_22_s  (x1 : Int32) (x2 : Int32) (M0 : xM) : fX2_longestBeginning_22  x1 x2 M0 = (if (M0 4 4) ≤ x1 then (some x2) else (if xin x1 408 then (fX2_alikeAt (M0 10 x1.toNatClampNeg) M0).bind fun v3 => xlt ((if x2 < v3 then v3 else x2)) fun y4 => some y4 else none)) := rfl
set_option maxHeartbeats 4000000 in
set_option maxRecDepth 100000 in
theorem kX2_longestBeginning_22 {p : Program} {l : Launch} {e : Env} {s : State} {m : MethodId} {args : Array Value} {below : List Frame} {meth : Method} {c : Code} {w : xT} (X : xX p s m args meth c cX2_longestBeginning 3 (some .int) RX2 w) (V : Int32)  : ∀ (x1 : Int32) (x2 : Int32) (M0 : xM) (H : Heap) (locs : List Loc) (ls : Array Slot), fX2_longestBeginning_22  x1 x2 M0 = some V → xP w M0 H → xS w s H locs → lv_has ls 3 [(0, .ref (xa w 32)), (1, .int x1), (2, .int x2)] → W p l e { frames := 1, cells := 0, slots := 0, locals := 40 } s m args below meth c H locs 0 0 (xQ w (some (.int V)) M0 below args s) (F0 m 22 ls []) := by
  have hx := X.1
  have hb := X.2.1
  have hown := X.2.2.2.2.2.1
  have hts := X.2.2.2.2.2.2.1
  intro x1 x2 M0 H locs ls hm hP hS hl
  rw [fX2_longestBeginning_22_s] at hm
  refine lv_iload_n hx hb dX2_longestBeginning_22 rfl (lv_at hl 1 rfl) ?_
  refine lv_aload_n hx hb dX2_longestBeginning_23 rfl (lv_at hl 0 rfl) ?_
  refine xget xcX2 X hP 32 1 xy32 (by decide) xf_X2_15 rfl dX2_longestBeginning_24 ?_
  refine xgeti xcX7 X hP 4 4 xy4 (by decide) xf_X2_27 rfl dX2_longestBeginning_27 ?_
  refine lv_icmp_ge (tgt := 51) hx hb dX2_longestBeginning_30 (by decide) (fun c1 => ?_) (fun c1 => ?_)
  · have hm := xift c1 hm
    refine lv_iload_n hx hb dX2_longestBeginning_51 rfl (lv_at hl 2 rfl) ?_
    obtain rfl := Option.some.inj hm
    exact xiret X hP hS dX2_longestBeginning_52
  · have hm := xiff c1 hm
    refine lv_iload_n hx hb dX2_longestBeginning_33 rfl (lv_at hl 2 rfl) ?_
    refine lv_aload_n hx hb dX2_longestBeginning_34 rfl (lv_at hl 0 rfl) ?_
    refine lv_aload_n hx hb dX2_longestBeginning_35 rfl (lv_at hl 0 rfl) ?_
    refine xget xcX2 X hP 32 2 xy32 (by decide) xf_X2_19 rfl dX2_longestBeginning_36 ?_
    refine xget xcX3 X hP 9 0 xy9 (by decide) xf_X2_32 rfl dX2_longestBeginning_39 ?_
    refine lv_iload_n hx hb dX2_longestBeginning_42 rfl (lv_at hl 1 rfl) ?_
    obtain ⟨hi2, hm⟩ := xifn hm
    refine xiald X hP 10 xy10 hi2 dX2_longestBeginning_43 ?_
    obtain ⟨v3, hg, hm⟩ := xbnd hm
    refine xcallV xm_X2_41 xt_X2_alikeAt X hP hS (qX2_alikeAt l w (M0 10 x1.toNatClampNeg) M0 v3 hg) xy32 rfl ⟨Nat.le_of_ble_eq_true rfl, Nat.le_of_ble_eq_true rfl⟩ ⟨rfl, rfl⟩ hl.1 rfl (rest := [.int x2]) rfl (Nat.le_of_ble_eq_true rfl) dX2_longestBeginning_44 ⟨Nat.zero_le _, Nat.zero_le _⟩ (fun H locs hP hS => ?_)
    refine W.eq (g2 := F0 m 47 ls [.int v3, .int x2]) rfl ?_
    refine va_mmax hx hb (X.2.2.1.trans hl.1.symm) hown (hts _ xm_X2_45) (hts _ xt_J9_max_7cf53) (hts _ xn_J9_max_7cf53) (hts _ xo_J9_max_7cf53) (by decide) (Nat.le_of_ble_eq_true rfl) (Nat.zero_le _) (Nat.zero_le _) dX2_longestBeginning_47 ?_
    refine lv_topi (fun y4 ey4 => ?_)
    have hm := xltE hm ey4
    refine lv_istore_n (lv' := [(2, .int y4), (0, .ref (xa w 32)), (1, .int x1)]) hx hb dX2_longestBeginning_50 rfl hl (by decide) rfl (fun ls hl => ?_)
    refine lv_iload_n hx hb dX2_longestBeginning_51 rfl (lv_at hl 0 rfl) ?_
    obtain rfl := Option.some.inj hm
    exact xiret X hP hS dX2_longestBeginning_52
def fX2_longestBeginning (x1 : Int32) (M0 : xM) : Option (Int32) := if x1 ≤ 0 then (fX2_longestBeginning_22 x1 0 M0) else (if xin (x1 - 1) 408 then (fX2_alikeAt (M0 10 (x1 - 1).toNatClampNeg) M0).bind fun v7 => fX2_longestBeginning_22 x1 v7 M0 else none)
theorem fX2_longestBeginning_s (x1 : Int32) (M0 : xM) : fX2_longestBeginning x1 M0 = (if x1 ≤ 0 then (fX2_longestBeginning_22 x1 0 M0) else (if xin (x1 - 1) 408 then (fX2_alikeAt (M0 10 (x1 - 1).toNatClampNeg) M0).bind fun v7 => fX2_longestBeginning_22 x1 v7 M0 else none)) := rfl
set_option maxHeartbeats 4000000 in
set_option maxRecDepth 100000 in
theorem qX2_longestBeginning (l : Launch) (w : xT) (x1 : Int32) (M0 : xM) (V : Int32) (hm : fX2_longestBeginning x1 M0 = some V) : xC l yX2_longestBeginning (Cond.code yX2_longestBeginning cX2_longestBeginning 3 (some .int)) { frames := 1, cells := 0, slots := 0, locals := 40 } w [.ref (xa w 32), .int x1] M0 (some (.int V)) M0 := by
  refine xC.of (by decide) (Nat.le_of_ble_eq_true rfl) ?_
  intro p e s m args below meth c ls X hP hS hl
  have hl : lv_has ls 3 [(0, .ref (xa w 32)), (1, .int x1)] := hl
  have X : xX p s m args meth c cX2_longestBeginning 3 (some .int) RX2 w := X
  have hx := X.1
  have hb := X.2.1
  have hown := X.2.2.2.2.2.1
  have hts := X.2.2.2.2.2.2.1
  rw [fX2_longestBeginning_s] at hm
  refine lv_iconst (v := 0) hx hb dX2_longestBeginning_0 (by decide) ?_
  refine lv_istore_n (lv' := [(2, .int 0), (0, .ref (xa w 32)), (1, .int x1)]) hx hb dX2_longestBeginning_1 rfl hl (by decide) rfl (fun ls hl => ?_)
  refine lv_iload_n hx hb dX2_longestBeginning_2 rfl (lv_at hl 2 rfl) ?_
  refine lv_if_le (tgt := 22) hx hb dX2_longestBeginning_3 (by decide) (fun c5 => ?_) (fun c5 => ?_)
  · have hm := xift c5 hm
    exact kX2_longestBeginning_22 X V  x1 0 M0 _ _ _ hm hP hS (lv_sub hl [1, 2, 0] rfl)
  · have hm := xiff c5 hm
    refine lv_aload_n hx hb dX2_longestBeginning_6 rfl (lv_at hl 1 rfl) ?_
    refine lv_aload_n hx hb dX2_longestBeginning_7 rfl (lv_at hl 1 rfl) ?_
    refine xget xcX2 X hP 32 2 xy32 (by decide) xf_X2_19 rfl dX2_longestBeginning_8 ?_
    refine xget xcX3 X hP 9 0 xy9 (by decide) xf_X2_32 rfl dX2_longestBeginning_11 ?_
    refine lv_iload_n hx hb dX2_longestBeginning_14 rfl (lv_at hl 2 rfl) ?_
    refine lv_iconst (v := 1) hx hb dX2_longestBeginning_15 (by decide) ?_
    refine lv_isub hx hb dX2_longestBeginning_16 ?_
    obtain ⟨hi6, hm⟩ := xifn hm
    refine xiald X hP 10 xy10 hi6 dX2_longestBeginning_17 ?_
    obtain ⟨v7, hg, hm⟩ := xbnd hm
    refine xcallV xm_X2_41 xt_X2_alikeAt X hP hS (qX2_alikeAt l w (M0 10 (x1 - 1).toNatClampNeg) M0 v7 hg) xy32 rfl ⟨Nat.le_of_ble_eq_true rfl, Nat.le_of_ble_eq_true rfl⟩ ⟨rfl, rfl⟩ hl.1 rfl (rest := []) rfl (Nat.le_of_ble_eq_true rfl) dX2_longestBeginning_18 ⟨Nat.zero_le _, Nat.zero_le _⟩ (fun H locs hP hS => ?_)
    refine W.eq (g2 := F0 m 21 ls [.int v7]) rfl ?_
    refine lv_istore_n (lv' := [(2, .int v7), (0, .ref (xa w 32)), (1, .int x1)]) hx hb dX2_longestBeginning_21 rfl hl (by decide) rfl (fun ls hl => ?_)
    exact kX2_longestBeginning_22 X V  x1 v7 M0 _ _ _ hm hP hS (lv_sub hl [1, 2, 0] rfl)
def fX3_greatestPlace_5  : Nat → Int32 → Int32 → Int32 → xM → Option (Int32)
  | 0 => fun _ _ _ _ => none
  | n + 1 => fun x2 x3 x4 M0 => if x2 ≤ x4 then (some x3) else (if xin x4 408 then xlt ((if x3 < (M0 10 x4.toNatClampNeg) then (M0 10 x4.toNatClampNeg) else x3)) fun y3 => fX3_greatestPlace_5 n x2 y3 (x4 + 1) M0 else none)
theorem fX3_greatestPlace_5_s  (n : Nat) (x2 : Int32) (x3 : Int32) (x4 : Int32) (M0 : xM) : fX3_greatestPlace_5  (n + 1) x2 x3 x4 M0 = (if x2 ≤ x4 then (some x3) else (if xin x4 408 then xlt ((if x3 < (M0 10 x4.toNatClampNeg) then (M0 10 x4.toNatClampNeg) else x3)) fun y3 => fX3_greatestPlace_5 n x2 y3 (x4 + 1) M0 else none)) := rfl
set_option maxHeartbeats 4000000 in
set_option maxRecDepth 100000 in
theorem kX3_greatestPlace_5 {p : Program} {l : Launch} {e : Env} {s : State} {m : MethodId} {args : Array Value} {below : List Frame} {meth : Method} {c : Code} {w : xT} (X : xX p s m args meth c cX3_greatestPlace 5 (some .int) RX3 w) (V : Int32)  : ∀ (n : Nat) (x2 : Int32) (x3 : Int32) (x4 : Int32) (M0 : xM) (H : Heap) (locs : List Loc) (ls : Array Slot), fX3_greatestPlace_5  n x2 x3 x4 M0 = some V → xP w M0 H → xS w s H locs → lv_has ls 5 [(0, .ref (xa w 9)), (2, .int x2), (3, .int x3), (4, .int x4)] → W p l e { frames := 1, cells := 0, slots := 0, locals := 40 } s m args below meth c H locs 0 0 (xQ w (some (.int V)) M0 below args s) (F0 m 5 ls []) := by
  have hx := X.1
  have hb := X.2.1
  have hown := X.2.2.2.2.2.1
  have hts := X.2.2.2.2.2.2.1
  intro n
  induction n with
  | zero => intro x2 x3 x4 M0 H locs ls hm hP hS hl; exact xnon hm
  | succ n ih =>
    intro x2 x3 x4 M0 H locs ls hm hP hS hl
    rw [fX3_greatestPlace_5_s] at hm
    refine lv_iload hx hb dX3_greatestPlace_5 (lv_at hl 3 rfl) ?_
    refine lv_iload_n hx hb dX3_greatestPlace_7 rfl (lv_at hl 1 rfl) ?_
    refine lv_icmp_ge (tgt := 29) hx hb dX3_greatestPlace_8 (by decide) (fun c1 => ?_) (fun c1 => ?_)
    · have hm := xift c1 hm
      refine lv_iload_n hx hb dX3_greatestPlace_29 rfl (lv_at hl 2 rfl) ?_
      obtain rfl := Option.some.inj hm
      exact xiret X hP hS dX3_greatestPlace_30
    · have hm := xiff c1 hm
      refine lv_iload_n hx hb dX3_greatestPlace_11 rfl (lv_at hl 2 rfl) ?_
      refine lv_aload_n hx hb dX3_greatestPlace_12 rfl (lv_at hl 0 rfl) ?_
      refine xget xcX3 X hP 9 0 xy9 (by decide) xf_X3_9 rfl dX3_greatestPlace_13 ?_
      refine lv_iload hx hb dX3_greatestPlace_16 (lv_at hl 3 rfl) ?_
      obtain ⟨hi2, hm⟩ := xifn hm
      refine xiald X hP 10 xy10 hi2 dX3_greatestPlace_18 ?_
      refine va_mmax hx hb (X.2.2.1.trans hl.1.symm) hown (hts _ xm_X3_70) (hts _ xt_J9_max_7cf53) (hts _ xn_J9_max_7cf53) (hts _ xo_J9_max_7cf53) (by decide) (Nat.le_of_ble_eq_true rfl) (Nat.zero_le _) (Nat.zero_le _) dX3_greatestPlace_19 ?_
      refine lv_topi (fun y3 ey3 => ?_)
      have hm := xltE hm ey3
      refine lv_istore_n (lv' := [(3, .int y3), (0, .ref (xa w 9)), (2, .int x2), (4, .int x4)]) hx hb dX3_greatestPlace_22 rfl hl (by decide) rfl (fun ls hl => ?_)
      refine lv_iinc (v := x4 + 1) (lv' := [(4, .int (x4 + 1)), (3, .int y3), (0, .ref (xa w 9)), (2, .int x2)]) hx hb dX3_greatestPlace_23 hl (k := 3) rfl rfl (by decide) rfl (fun ls hl => ?_)
      refine lv_goto (tgt := 5) hx hb dX3_greatestPlace_26 (by decide) ?_
      exact ih x2 y3 (x4 + 1) M0 _ _ _ hm hP hS (lv_sub hl [2, 3, 1, 0] rfl)
def fX3_greatestPlace (x1 : Int32) (x2 : Int32) (M0 : xM) : Option (Int32) := fX3_greatestPlace_5 4096 x2 (-1) x1 M0
theorem fX3_greatestPlace_s (x1 : Int32) (x2 : Int32) (M0 : xM) : fX3_greatestPlace x1 x2 M0 = (fX3_greatestPlace_5 4096 x2 (-1) x1 M0) := rfl
set_option maxHeartbeats 4000000 in
set_option maxRecDepth 100000 in
theorem qX3_greatestPlace (l : Launch) (w : xT) (x1 : Int32) (x2 : Int32) (M0 : xM) (V : Int32) (hm : fX3_greatestPlace x1 x2 M0 = some V) : xC l yX3_greatestPlace (Cond.code yX3_greatestPlace cX3_greatestPlace 5 (some .int)) { frames := 1, cells := 0, slots := 0, locals := 40 } w [.ref (xa w 9), .int x1, .int x2] M0 (some (.int V)) M0 := by
  refine xC.of (by decide) (Nat.le_of_ble_eq_true rfl) ?_
  intro p e s m args below meth c ls X hP hS hl
  have hl : lv_has ls 5 [(0, .ref (xa w 9)), (1, .int x1), (2, .int x2)] := hl
  have X : xX p s m args meth c cX3_greatestPlace 5 (some .int) RX3 w := X
  have hx := X.1
  have hb := X.2.1
  have hown := X.2.2.2.2.2.1
  have hts := X.2.2.2.2.2.2.1
  rw [fX3_greatestPlace_s] at hm
  refine lv_iconst (v := (-1)) hx hb dX3_greatestPlace_0 (by decide) ?_
  refine lv_istore_n (lv' := [(3, .int (-1)), (0, .ref (xa w 9)), (1, .int x1), (2, .int x2)]) hx hb dX3_greatestPlace_1 rfl hl (by decide) rfl (fun ls hl => ?_)
  refine lv_iload_n hx hb dX3_greatestPlace_2 rfl (lv_at hl 2 rfl) ?_
  refine lv_istore (lv' := [(4, .int x1), (3, .int (-1)), (0, .ref (xa w 9)), (1, .int x1), (2, .int x2)]) hx hb dX3_greatestPlace_3 hl (by decide) rfl (fun ls hl => ?_)
  exact kX3_greatestPlace_5 X V  4096 x2 (-1) x1 M0 _ _ _ hm hP hS (lv_sub hl [2, 4, 1, 0] rfl)
def fX3_leastPlace_35 (k5 : Int32 → Int32 → Int32 → xM → Option (Int32)) (x2 : Int32) (x3 : Int32) (x4 : Int32) (M0 : xM) : Option (Int32) := k5 x2 x3 (x4 + 1) M0
theorem fX3_leastPlace_35_s (k5 : Int32 → Int32 → Int32 → xM → Option (Int32)) (x2 : Int32) (x3 : Int32) (x4 : Int32) (M0 : xM) : fX3_leastPlace_35 k5 x2 x3 x4 M0 = (k5 x2 x3 (x4 + 1) M0) := rfl
set_option maxHeartbeats 4000000 in
set_option maxRecDepth 100000 in
theorem kX3_leastPlace_35 {p : Program} {l : Launch} {e : Env} {s : State} {m : MethodId} {args : Array Value} {below : List Frame} {meth : Method} {c : Code} {w : xT} (X : xX p s m args meth c cX3_leastPlace 5 (some .int) RX3 w) (V : Int32) (k5 : Int32 → Int32 → Int32 → xM → Option (Int32)) (hk5 : ∀ (x2 : Int32) (x3 : Int32) (x4 : Int32) (M : xM) (H : Heap) (locs : List Loc) (ls : Array Slot), k5 x2 x3 x4 M = some V → xP w M H → xS w s H locs → lv_has ls 5 [(0, .ref (xa w 9)), (2, .int x2), (3, .int x3), (4, .int x4)] → W p l e { frames := 0, cells := 0, slots := 0, locals := 0 } s m args below meth c H locs 0 0 (xQ w (some (.int V)) M below args s) (F0 m 5 ls [])) : ∀ (x2 : Int32) (x3 : Int32) (x4 : Int32) (M0 : xM) (H : Heap) (locs : List Loc) (ls : Array Slot), fX3_leastPlace_35 k5 x2 x3 x4 M0 = some V → xP w M0 H → xS w s H locs → lv_has ls 5 [(0, .ref (xa w 9)), (2, .int x2), (3, .int x3), (4, .int x4)] → W p l e { frames := 0, cells := 0, slots := 0, locals := 0 } s m args below meth c H locs 0 0 (xQ w (some (.int V)) M0 below args s) (F0 m 35 ls []) := by
  have hx := X.1
  have hb := X.2.1
  have hown := X.2.2.2.2.2.1
  have hts := X.2.2.2.2.2.2.1
  intro x2 x3 x4 M0 H locs ls hm hP hS hl
  rw [fX3_leastPlace_35_s] at hm
  refine lv_iinc (v := x4 + 1) (lv' := [(4, .int (x4 + 1)), (0, .ref (xa w 9)), (2, .int x2), (3, .int x3)]) hx hb dX3_leastPlace_35 hl (k := 3) rfl rfl (by decide) rfl (fun ls hl => ?_)
  refine lv_goto (tgt := 5) hx hb dX3_leastPlace_38 (by decide) ?_
  exact hk5 x2 x3 (x4 + 1) M0 _ _ _ hm hP hS (lv_sub hl [1, 2, 3, 0] rfl)
def fX3_leastPlace_27 (k5 : Int32 → Int32 → Int32 → xM → Option (Int32)) (x2 : Int32) (x4 : Int32) (M0 : xM) : Option (Int32) := if xin x4 408 then fX3_leastPlace_35 k5 x2 (M0 10 x4.toNatClampNeg) x4 M0 else none
theorem fX3_leastPlace_27_s (k5 : Int32 → Int32 → Int32 → xM → Option (Int32)) (x2 : Int32) (x4 : Int32) (M0 : xM) : fX3_leastPlace_27 k5 x2 x4 M0 = (if xin x4 408 then fX3_leastPlace_35 k5 x2 (M0 10 x4.toNatClampNeg) x4 M0 else none) := rfl
set_option maxHeartbeats 4000000 in
set_option maxRecDepth 100000 in
theorem kX3_leastPlace_27 {p : Program} {l : Launch} {e : Env} {s : State} {m : MethodId} {args : Array Value} {below : List Frame} {meth : Method} {c : Code} {w : xT} (X : xX p s m args meth c cX3_leastPlace 5 (some .int) RX3 w) (V : Int32) (k5 : Int32 → Int32 → Int32 → xM → Option (Int32)) (hk5 : ∀ (x2 : Int32) (x3 : Int32) (x4 : Int32) (M : xM) (H : Heap) (locs : List Loc) (ls : Array Slot), k5 x2 x3 x4 M = some V → xP w M H → xS w s H locs → lv_has ls 5 [(0, .ref (xa w 9)), (2, .int x2), (3, .int x3), (4, .int x4)] → W p l e { frames := 0, cells := 0, slots := 0, locals := 0 } s m args below meth c H locs 0 0 (xQ w (some (.int V)) M below args s) (F0 m 5 ls [])) : ∀ (x2 : Int32) (x4 : Int32) (M0 : xM) (H : Heap) (locs : List Loc) (ls : Array Slot), fX3_leastPlace_27 k5 x2 x4 M0 = some V → xP w M0 H → xS w s H locs → lv_has ls 5 [(0, .ref (xa w 9)), (2, .int x2), (4, .int x4)] → W p l e { frames := 0, cells := 0, slots := 0, locals := 0 } s m args below meth c H locs 0 0 (xQ w (some (.int V)) M0 below args s) (F0 m 27 ls []) := by
  have hx := X.1
  have hb := X.2.1
  have hown := X.2.2.2.2.2.1
  have hts := X.2.2.2.2.2.2.1
  intro x2 x4 M0 H locs ls hm hP hS hl
  rw [fX3_leastPlace_27_s] at hm
  refine lv_aload_n hx hb dX3_leastPlace_27 rfl (lv_at hl 0 rfl) ?_
  refine xget xcX3 X hP 9 0 xy9 (by decide) xf_X3_9 rfl dX3_leastPlace_28 ?_
  refine lv_iload hx hb dX3_leastPlace_31 (lv_at hl 2 rfl) ?_
  obtain ⟨hi1, hm⟩ := xifn hm
  refine xiald X hP 10 xy10 hi1 dX3_leastPlace_33 ?_
  refine lv_istore_n (lv' := [(3, .int (M0 10 x4.toNatClampNeg)), (0, .ref (xa w 9)), (2, .int x2), (4, .int x4)]) hx hb dX3_leastPlace_34 rfl hl (by decide) rfl (fun ls hl => ?_)
  exact kX3_leastPlace_35 X V k5 hk5 x2 (M0 10 x4.toNatClampNeg) x4 M0 _ _ _ hm hP hS (lv_sub hl [1, 2, 0, 3] rfl)
def fX3_leastPlace_5  : Nat → Int32 → Int32 → Int32 → xM → Option (Int32)
  | 0 => fun _ _ _ _ => none
  | n + 1 => fun x2 x3 x4 M0 => if x2 ≤ x4 then (some x3) else (if x3 = (-1) then (fX3_leastPlace_27 (fX3_leastPlace_5 n) x2 x4 M0) else (if xin x4 408 then if x3 ≤ (M0 10 x4.toNatClampNeg) then (fX3_leastPlace_35 (fX3_leastPlace_5 n) x2 x3 x4 M0) else (fX3_leastPlace_27 (fX3_leastPlace_5 n) x2 x4 M0) else none))
theorem fX3_leastPlace_5_s  (n : Nat) (x2 : Int32) (x3 : Int32) (x4 : Int32) (M0 : xM) : fX3_leastPlace_5  (n + 1) x2 x3 x4 M0 = (if x2 ≤ x4 then (some x3) else (if x3 = (-1) then (fX3_leastPlace_27 (fX3_leastPlace_5 n) x2 x4 M0) else (if xin x4 408 then if x3 ≤ (M0 10 x4.toNatClampNeg) then (fX3_leastPlace_35 (fX3_leastPlace_5 n) x2 x3 x4 M0) else (fX3_leastPlace_27 (fX3_leastPlace_5 n) x2 x4 M0) else none))) := rfl
set_option maxHeartbeats 4000000 in
set_option maxRecDepth 100000 in
theorem kX3_leastPlace_5 {p : Program} {l : Launch} {e : Env} {s : State} {m : MethodId} {args : Array Value} {below : List Frame} {meth : Method} {c : Code} {w : xT} (X : xX p s m args meth c cX3_leastPlace 5 (some .int) RX3 w) (V : Int32)  : ∀ (n : Nat) (x2 : Int32) (x3 : Int32) (x4 : Int32) (M0 : xM) (H : Heap) (locs : List Loc) (ls : Array Slot), fX3_leastPlace_5  n x2 x3 x4 M0 = some V → xP w M0 H → xS w s H locs → lv_has ls 5 [(0, .ref (xa w 9)), (2, .int x2), (3, .int x3), (4, .int x4)] → W p l e { frames := 0, cells := 0, slots := 0, locals := 0 } s m args below meth c H locs 0 0 (xQ w (some (.int V)) M0 below args s) (F0 m 5 ls []) := by
  have hx := X.1
  have hb := X.2.1
  have hown := X.2.2.2.2.2.1
  have hts := X.2.2.2.2.2.2.1
  intro n
  induction n with
  | zero => intro x2 x3 x4 M0 H locs ls hm hP hS hl; exact xnon hm
  | succ n ih =>
    intro x2 x3 x4 M0 H locs ls hm hP hS hl
    rw [fX3_leastPlace_5_s] at hm
    refine lv_iload hx hb dX3_leastPlace_5 (lv_at hl 3 rfl) ?_
    refine lv_iload_n hx hb dX3_leastPlace_7 rfl (lv_at hl 1 rfl) ?_
    refine lv_icmp_ge (tgt := 41) hx hb dX3_leastPlace_8 (by decide) (fun c2 => ?_) (fun c2 => ?_)
    · have hm := xift c2 hm
      refine lv_iload_n hx hb dX3_leastPlace_41 rfl (lv_at hl 2 rfl) ?_
      obtain rfl := Option.some.inj hm
      exact xiret X hP hS dX3_leastPlace_42
    · have hm := xiff c2 hm
      refine lv_iload_n hx hb dX3_leastPlace_11 rfl (lv_at hl 2 rfl) ?_
      refine lv_iconst (v := (-1)) hx hb dX3_leastPlace_12 (by decide) ?_
      refine lv_icmp_eq (tgt := 27) hx hb dX3_leastPlace_13 (by decide) (fun c3 => ?_) (fun c3 => ?_)
      · have hm := xift c3 hm
        exact kX3_leastPlace_27 X V (fX3_leastPlace_5 n) ih x2 x4 M0 _ _ _ hm hP hS (lv_sub hl [0, 1, 3] rfl)
      · have hm := xiff c3 hm
        refine lv_aload_n hx hb dX3_leastPlace_16 rfl (lv_at hl 0 rfl) ?_
        refine xget xcX3 X hP 9 0 xy9 (by decide) xf_X3_9 rfl dX3_leastPlace_17 ?_
        refine lv_iload hx hb dX3_leastPlace_20 (lv_at hl 3 rfl) ?_
        obtain ⟨hi4, hm⟩ := xifn hm
        refine xiald X hP 10 xy10 hi4 dX3_leastPlace_22 ?_
        refine lv_iload_n hx hb dX3_leastPlace_23 rfl (lv_at hl 2 rfl) ?_
        refine lv_icmp_ge (tgt := 35) hx hb dX3_leastPlace_24 (by decide) (fun c5 => ?_) (fun c5 => ?_)
        · have hm := xift c5 hm
          exact kX3_leastPlace_35 X V (fX3_leastPlace_5 n) ih x2 x3 x4 M0 _ _ _ hm hP hS (lv_sub hl [0, 1, 2, 3] rfl)
        · have hm := xiff c5 hm
          exact kX3_leastPlace_27 X V (fX3_leastPlace_5 n) ih x2 x4 M0 _ _ _ hm hP hS (lv_sub hl [0, 1, 3] rfl)
def fX3_leastPlace (x1 : Int32) (x2 : Int32) (M0 : xM) : Option (Int32) := fX3_leastPlace_5 4096 x2 (-1) x1 M0
theorem fX3_leastPlace_s (x1 : Int32) (x2 : Int32) (M0 : xM) : fX3_leastPlace x1 x2 M0 = (fX3_leastPlace_5 4096 x2 (-1) x1 M0) := rfl
set_option maxHeartbeats 4000000 in
set_option maxRecDepth 100000 in
theorem qX3_leastPlace (l : Launch) (w : xT) (x1 : Int32) (x2 : Int32) (M0 : xM) (V : Int32) (hm : fX3_leastPlace x1 x2 M0 = some V) : xC l yX3_leastPlace (Cond.code yX3_leastPlace cX3_leastPlace 5 (some .int)) { frames := 0, cells := 0, slots := 0, locals := 0 } w [.ref (xa w 9), .int x1, .int x2] M0 (some (.int V)) M0 := by
  refine xC.of (by decide) (Nat.le_of_ble_eq_true rfl) ?_
  intro p e s m args below meth c ls X hP hS hl
  have hl : lv_has ls 5 [(0, .ref (xa w 9)), (1, .int x1), (2, .int x2)] := hl
  have X : xX p s m args meth c cX3_leastPlace 5 (some .int) RX3 w := X
  have hx := X.1
  have hb := X.2.1
  have hown := X.2.2.2.2.2.1
  have hts := X.2.2.2.2.2.2.1
  rw [fX3_leastPlace_s] at hm
  refine lv_iconst (v := (-1)) hx hb dX3_leastPlace_0 (by decide) ?_
  refine lv_istore_n (lv' := [(3, .int (-1)), (0, .ref (xa w 9)), (1, .int x1), (2, .int x2)]) hx hb dX3_leastPlace_1 rfl hl (by decide) rfl (fun ls hl => ?_)
  refine lv_iload_n hx hb dX3_leastPlace_2 rfl (lv_at hl 2 rfl) ?_
  refine lv_istore (lv' := [(4, .int x1), (3, .int (-1)), (0, .ref (xa w 9)), (1, .int x1), (2, .int x2)]) hx hb dX3_leastPlace_3 hl (by decide) rfl (fun ls hl => ?_)
  exact kX3_leastPlace_5 X V  4096 x2 (-1) x1 M0 _ _ _ hm hP hS (lv_sub hl [2, 4, 1, 0] rfl)
def fJ6_bitCount_0f7a4 (x0 : Int32) (M0 : xM) : Option (Int32) := xlt (x0 - ((((x0 : Int32).toUInt32 >>> ((1 : Int32).toUInt32 &&& Int32.toUInt32 31)).toInt32) &&& 1431655765)) fun y1 => xlt ((y1 &&& 858993459) + ((((y1 : Int32).toUInt32 >>> ((2 : Int32).toUInt32 &&& Int32.toUInt32 31)).toInt32) &&& 858993459)) fun y2 => xlt ((y2 + (((y2 : Int32).toUInt32 >>> ((4 : Int32).toUInt32 &&& Int32.toUInt32 31)).toInt32)) &&& 252645135) fun y3 => xlt (y3 + (((y3 : Int32).toUInt32 >>> ((8 : Int32).toUInt32 &&& Int32.toUInt32 31)).toInt32)) fun y4 => xlt (y4 + (((y4 : Int32).toUInt32 >>> ((16 : Int32).toUInt32 &&& Int32.toUInt32 31)).toInt32)) fun y5 => some (y5 &&& 63)
theorem fJ6_bitCount_0f7a4_s (x0 : Int32) (M0 : xM) : fJ6_bitCount_0f7a4 x0 M0 = (xlt (x0 - ((((x0 : Int32).toUInt32 >>> ((1 : Int32).toUInt32 &&& Int32.toUInt32 31)).toInt32) &&& 1431655765)) fun y1 => xlt ((y1 &&& 858993459) + ((((y1 : Int32).toUInt32 >>> ((2 : Int32).toUInt32 &&& Int32.toUInt32 31)).toInt32) &&& 858993459)) fun y2 => xlt ((y2 + (((y2 : Int32).toUInt32 >>> ((4 : Int32).toUInt32 &&& Int32.toUInt32 31)).toInt32)) &&& 252645135) fun y3 => xlt (y3 + (((y3 : Int32).toUInt32 >>> ((8 : Int32).toUInt32 &&& Int32.toUInt32 31)).toInt32)) fun y4 => xlt (y4 + (((y4 : Int32).toUInt32 >>> ((16 : Int32).toUInt32 &&& Int32.toUInt32 31)).toInt32)) fun y5 => some (y5 &&& 63)) := rfl
set_option maxHeartbeats 4000000 in
set_option maxRecDepth 100000 in
theorem qJ6_bitCount_0f7a4 (l : Launch) (w : xT) (x0 : Int32) (M0 : xM) (V : Int32) (hm : fJ6_bitCount_0f7a4 x0 M0 = some V) : xC l yJ6_bitCount_0f7a4 (Cond.code yJ6_bitCount_0f7a4 cJ6_bitCount_0f7a4 1 (some .int)) { frames := 0, cells := 0, slots := 0, locals := 0 } w [.int x0] M0 (some (.int V)) M0 := by
  refine xC.of (by decide) (Nat.le_of_ble_eq_true rfl) ?_
  intro p e s m args below meth c ls X hP hS hl
  have hl : lv_has ls 1 [(0, .int x0)] := hl
  have X : xX p s m args meth c cJ6_bitCount_0f7a4 1 (some .int) RJ6 w := X
  have hx := X.1
  have hb := X.2.1
  have hown := X.2.2.2.2.2.1
  have hts := X.2.2.2.2.2.2.1
  rw [fJ6_bitCount_0f7a4_s] at hm
  refine lv_iload_n hx hb dJ6_bitCount_0f7a4_0 rfl (lv_at hl 0 rfl) ?_
  refine lv_iload_n hx hb dJ6_bitCount_0f7a4_1 rfl (lv_at hl 0 rfl) ?_
  refine lv_iconst (v := 1) hx hb dJ6_bitCount_0f7a4_2 (by decide) ?_
  refine lv_iushr hx hb dJ6_bitCount_0f7a4_3 rfl ?_
  refine lv_ldcw (v := 1431655765) hx hb hown (hts _ xq_J6_265) dJ6_bitCount_0f7a4_4 ?_
  refine lv_iand hx hb dJ6_bitCount_0f7a4_7 ?_
  refine lv_isub hx hb dJ6_bitCount_0f7a4_8 ?_
  refine lv_topi (fun y1 ey1 => ?_)
  have hm := xltE hm ey1
  refine lv_istore_n (lv' := [(0, .int y1)]) hx hb dJ6_bitCount_0f7a4_9 rfl hl (by decide) rfl (fun ls hl => ?_)
  refine lv_iload_n hx hb dJ6_bitCount_0f7a4_10 rfl (lv_at hl 0 rfl) ?_
  refine lv_ldcw (v := 858993459) hx hb hown (hts _ xq_J6_266) dJ6_bitCount_0f7a4_11 ?_
  refine lv_iand hx hb dJ6_bitCount_0f7a4_14 ?_
  refine lv_iload_n hx hb dJ6_bitCount_0f7a4_15 rfl (lv_at hl 0 rfl) ?_
  refine lv_iconst (v := 2) hx hb dJ6_bitCount_0f7a4_16 (by decide) ?_
  refine lv_iushr hx hb dJ6_bitCount_0f7a4_17 rfl ?_
  refine lv_ldcw (v := 858993459) hx hb hown (hts _ xq_J6_266) dJ6_bitCount_0f7a4_18 ?_
  refine lv_iand hx hb dJ6_bitCount_0f7a4_21 ?_
  refine lv_iadd hx hb dJ6_bitCount_0f7a4_22 ?_
  refine lv_topi (fun y2 ey2 => ?_)
  have hm := xltE hm ey2
  refine lv_istore_n (lv' := [(0, .int y2)]) hx hb dJ6_bitCount_0f7a4_23 rfl hl (by decide) rfl (fun ls hl => ?_)
  refine lv_iload_n hx hb dJ6_bitCount_0f7a4_24 rfl (lv_at hl 0 rfl) ?_
  refine lv_iload_n hx hb dJ6_bitCount_0f7a4_25 rfl (lv_at hl 0 rfl) ?_
  refine lv_iconst (v := 4) hx hb dJ6_bitCount_0f7a4_26 (by decide) ?_
  refine lv_iushr hx hb dJ6_bitCount_0f7a4_27 rfl ?_
  refine lv_iadd hx hb dJ6_bitCount_0f7a4_28 ?_
  refine lv_ldcw (v := 252645135) hx hb hown (hts _ xq_J6_267) dJ6_bitCount_0f7a4_29 ?_
  refine lv_iand hx hb dJ6_bitCount_0f7a4_32 ?_
  refine lv_topi (fun y3 ey3 => ?_)
  have hm := xltE hm ey3
  refine lv_istore_n (lv' := [(0, .int y3)]) hx hb dJ6_bitCount_0f7a4_33 rfl hl (by decide) rfl (fun ls hl => ?_)
  refine lv_iload_n hx hb dJ6_bitCount_0f7a4_34 rfl (lv_at hl 0 rfl) ?_
  refine lv_iload_n hx hb dJ6_bitCount_0f7a4_35 rfl (lv_at hl 0 rfl) ?_
  refine lv_bipush (v := 8) hx hb dJ6_bitCount_0f7a4_36 (by decide) ?_
  refine lv_iushr hx hb dJ6_bitCount_0f7a4_38 rfl ?_
  refine lv_iadd hx hb dJ6_bitCount_0f7a4_39 ?_
  refine lv_topi (fun y4 ey4 => ?_)
  have hm := xltE hm ey4
  refine lv_istore_n (lv' := [(0, .int y4)]) hx hb dJ6_bitCount_0f7a4_40 rfl hl (by decide) rfl (fun ls hl => ?_)
  refine lv_iload_n hx hb dJ6_bitCount_0f7a4_41 rfl (lv_at hl 0 rfl) ?_
  refine lv_iload_n hx hb dJ6_bitCount_0f7a4_42 rfl (lv_at hl 0 rfl) ?_
  refine lv_bipush (v := 16) hx hb dJ6_bitCount_0f7a4_43 (by decide) ?_
  refine lv_iushr hx hb dJ6_bitCount_0f7a4_45 rfl ?_
  refine lv_iadd hx hb dJ6_bitCount_0f7a4_46 ?_
  refine lv_topi (fun y5 ey5 => ?_)
  have hm := xltE hm ey5
  refine lv_istore_n (lv' := [(0, .int y5)]) hx hb dJ6_bitCount_0f7a4_47 rfl hl (by decide) rfl (fun ls hl => ?_)
  refine lv_iload_n hx hb dJ6_bitCount_0f7a4_48 rfl (lv_at hl 0 rfl) ?_
  refine lv_bipush (v := 63) hx hb dJ6_bitCount_0f7a4_49 (by decide) ?_
  refine lv_iand hx hb dJ6_bitCount_0f7a4_51 ?_
  obtain rfl := Option.some.inj hm
  exact xiret X hP hS dJ6_bitCount_0f7a4_52
def fX3_countTexts_37  (x3 : Int32) (M0 : xM) : Option (Int32) := (fJ6_bitCount_0f7a4 x3 M0).bind fun v1 => some v1
theorem fX3_countTexts_37_s  (x3 : Int32) (M0 : xM) : fX3_countTexts_37  x3 M0 = ((fJ6_bitCount_0f7a4 x3 M0).bind fun v1 => some v1) := rfl
set_option maxHeartbeats 4000000 in
set_option maxRecDepth 100000 in
theorem kX3_countTexts_37 {p : Program} {l : Launch} {e : Env} {s : State} {m : MethodId} {args : Array Value} {below : List Frame} {meth : Method} {c : Code} {w : xT} (X : xX p s m args meth c cX3_countTexts 5 (some .int) RX3 w) (V : Int32)  : ∀ (x3 : Int32) (M0 : xM) (H : Heap) (locs : List Loc) (ls : Array Slot), fX3_countTexts_37  x3 M0 = some V → xP w M0 H → xS w s H locs → lv_has ls 5 [(3, .int x3)] → W p l e { frames := 1, cells := 0, slots := 0, locals := 20 } s m args below meth c H locs 0 0 (xQ w (some (.int V)) M0 below args s) (F0 m 37 ls []) := by
  have hx := X.1
  have hb := X.2.1
  have hown := X.2.2.2.2.2.1
  have hts := X.2.2.2.2.2.2.1
  intro x3 M0 H locs ls hm hP hS hl
  rw [fX3_countTexts_37_s] at hm
  refine lv_iload_n hx hb dX3_countTexts_37 rfl (lv_at hl 0 rfl) ?_
  obtain ⟨v1, hg, hm⟩ := xbnd hm
  refine xcallS xm_X3_64 xt_J6_bitCount_0f7a4 X hP hS (qJ6_bitCount_0f7a4 l w x3 M0 v1 hg) ⟨Nat.le_of_ble_eq_true rfl, Nat.le_of_ble_eq_true rfl⟩ ⟨rfl, rfl⟩ hl.1 rfl (rest := []) rfl (Nat.le_of_ble_eq_true rfl) dX3_countTexts_38 ⟨Nat.zero_le _, Nat.zero_le _⟩ (fun H locs hP hS => ?_)
  refine W.eq (g2 := F0 m 41 ls [.int v1]) rfl ?_
  obtain rfl := Option.some.inj hm
  exact xiret X hP hS dX3_countTexts_41
def fX3_countTexts_5  : Nat → Int32 → Int32 → Int32 → xM → Option (Int32)
  | 0 => fun _ _ _ _ => none
  | n + 1 => fun x2 x3 x4 M0 => if x2 ≤ x4 then (fX3_countTexts_37 x3 M0) else (if xin x4 408 then if xin (M0 10 x4.toNatClampNeg) 408 then xlt (x3 ||| (1 <<< ((M0 6 (M0 10 x4.toNatClampNeg).toNatClampNeg) &&& 31))) fun y5 => fX3_countTexts_5 n x2 y5 (x4 + 1) M0 else none else none)
theorem fX3_countTexts_5_s  (n : Nat) (x2 : Int32) (x3 : Int32) (x4 : Int32) (M0 : xM) : fX3_countTexts_5  (n + 1) x2 x3 x4 M0 = (if x2 ≤ x4 then (fX3_countTexts_37 x3 M0) else (if xin x4 408 then if xin (M0 10 x4.toNatClampNeg) 408 then xlt (x3 ||| (1 <<< ((M0 6 (M0 10 x4.toNatClampNeg).toNatClampNeg) &&& 31))) fun y5 => fX3_countTexts_5 n x2 y5 (x4 + 1) M0 else none else none)) := rfl
set_option maxHeartbeats 4000000 in
set_option maxRecDepth 100000 in
theorem kX3_countTexts_5 {p : Program} {l : Launch} {e : Env} {s : State} {m : MethodId} {args : Array Value} {below : List Frame} {meth : Method} {c : Code} {w : xT} (X : xX p s m args meth c cX3_countTexts 5 (some .int) RX3 w) (V : Int32)  : ∀ (n : Nat) (x2 : Int32) (x3 : Int32) (x4 : Int32) (M0 : xM) (H : Heap) (locs : List Loc) (ls : Array Slot), fX3_countTexts_5  n x2 x3 x4 M0 = some V → xP w M0 H → xS w s H locs → lv_has ls 5 [(0, .ref (xa w 9)), (2, .int x2), (3, .int x3), (4, .int x4)] → W p l e { frames := 1, cells := 0, slots := 0, locals := 20 } s m args below meth c H locs 0 0 (xQ w (some (.int V)) M0 below args s) (F0 m 5 ls []) := by
  have hx := X.1
  have hb := X.2.1
  have hown := X.2.2.2.2.2.1
  have hts := X.2.2.2.2.2.2.1
  intro n
  induction n with
  | zero => intro x2 x3 x4 M0 H locs ls hm hP hS hl; exact xnon hm
  | succ n ih =>
    intro x2 x3 x4 M0 H locs ls hm hP hS hl
    rw [fX3_countTexts_5_s] at hm
    refine lv_iload hx hb dX3_countTexts_5 (lv_at hl 3 rfl) ?_
    refine lv_iload_n hx hb dX3_countTexts_7 rfl (lv_at hl 1 rfl) ?_
    refine lv_icmp_ge (tgt := 37) hx hb dX3_countTexts_8 (by decide) (fun c2 => ?_) (fun c2 => ?_)
    · have hm := xift c2 hm
      exact kX3_countTexts_37 X V  x3 M0 _ _ _ hm hP hS (lv_sub hl [2] rfl)
    · have hm := xiff c2 hm
      refine lv_iload_n hx hb dX3_countTexts_11 rfl (lv_at hl 2 rfl) ?_
      refine lv_iconst (v := 1) hx hb dX3_countTexts_12 (by decide) ?_
      refine lv_aload_n hx hb dX3_countTexts_13 rfl (lv_at hl 0 rfl) ?_
      refine xget xcX3 X hP 9 3 xy9 (by decide) xf_X3_28 rfl dX3_countTexts_14 ?_
      refine xget xcX7 X hP 4 1 xy4 (by decide) xf_X3_61 rfl dX3_countTexts_17 ?_
      refine lv_aload_n hx hb dX3_countTexts_20 rfl (lv_at hl 0 rfl) ?_
      refine xget xcX3 X hP 9 0 xy9 (by decide) xf_X3_9 rfl dX3_countTexts_21 ?_
      refine lv_iload hx hb dX3_countTexts_24 (lv_at hl 3 rfl) ?_
      obtain ⟨hi3, hm⟩ := xifn hm
      refine xiald X hP 10 xy10 hi3 dX3_countTexts_26 ?_
      obtain ⟨hi4, hm⟩ := xifn hm
      refine xiald X hP 6 xy6 hi4 dX3_countTexts_27 ?_
      refine lv_ishl hx hb dX3_countTexts_28 ?_
      refine lv_ior hx hb dX3_countTexts_29 ?_
      refine lv_topi (fun y5 ey5 => ?_)
      have hm := xltE hm ey5
      refine lv_istore_n (lv' := [(3, .int y5), (0, .ref (xa w 9)), (2, .int x2), (4, .int x4)]) hx hb dX3_countTexts_30 rfl hl (by decide) rfl (fun ls hl => ?_)
      refine lv_iinc (v := x4 + 1) (lv' := [(4, .int (x4 + 1)), (3, .int y5), (0, .ref (xa w 9)), (2, .int x2)]) hx hb dX3_countTexts_31 hl (k := 3) rfl rfl (by decide) rfl (fun ls hl => ?_)
      refine lv_goto (tgt := 5) hx hb dX3_countTexts_34 (by decide) ?_
      exact ih x2 y5 (x4 + 1) M0 _ _ _ hm hP hS (lv_sub hl [2, 3, 1, 0] rfl)
def fX3_countTexts (x1 : Int32) (x2 : Int32) (M0 : xM) : Option (Int32) := fX3_countTexts_5 4096 x2 0 x1 M0
theorem fX3_countTexts_s (x1 : Int32) (x2 : Int32) (M0 : xM) : fX3_countTexts x1 x2 M0 = (fX3_countTexts_5 4096 x2 0 x1 M0) := rfl
set_option maxHeartbeats 4000000 in
set_option maxRecDepth 100000 in
theorem qX3_countTexts (l : Launch) (w : xT) (x1 : Int32) (x2 : Int32) (M0 : xM) (V : Int32) (hm : fX3_countTexts x1 x2 M0 = some V) : xC l yX3_countTexts (Cond.code yX3_countTexts cX3_countTexts 5 (some .int)) { frames := 1, cells := 0, slots := 0, locals := 20 } w [.ref (xa w 9), .int x1, .int x2] M0 (some (.int V)) M0 := by
  refine xC.of (by decide) (Nat.le_of_ble_eq_true rfl) ?_
  intro p e s m args below meth c ls X hP hS hl
  have hl : lv_has ls 5 [(0, .ref (xa w 9)), (1, .int x1), (2, .int x2)] := hl
  have X : xX p s m args meth c cX3_countTexts 5 (some .int) RX3 w := X
  have hx := X.1
  have hb := X.2.1
  have hown := X.2.2.2.2.2.1
  have hts := X.2.2.2.2.2.2.1
  rw [fX3_countTexts_s] at hm
  refine lv_iconst (v := 0) hx hb dX3_countTexts_0 (by decide) ?_
  refine lv_istore_n (lv' := [(3, .int 0), (0, .ref (xa w 9)), (1, .int x1), (2, .int x2)]) hx hb dX3_countTexts_1 rfl hl (by decide) rfl (fun ls hl => ?_)
  refine lv_iload_n hx hb dX3_countTexts_2 rfl (lv_at hl 2 rfl) ?_
  refine lv_istore (lv' := [(4, .int x1), (3, .int 0), (0, .ref (xa w 9)), (1, .int x1), (2, .int x2)]) hx hb dX3_countTexts_3 hl (by decide) rfl (fun ls hl => ?_)
  exact kX3_countTexts_5 X V  4096 x2 0 x1 M0 _ _ _ hm hP hS (lv_sub hl [2, 4, 1, 0] rfl)
def fX8_find (x1 : Int32) (M0 : xM) : Option (Int32) := (fX2_firstReaching 0 M0).bind fun v1 => (fX2_firstReaching 1 M0).bind fun v2 => if x1 = 0 then (some (v2 - v1)) else if x1 = 1 then (some v1) else if x1 = 2 then ((fX3_countTexts v1 v2 M0).bind fun v6 => some v6) else if x1 = 3 then ((fX3_leastPlace v1 v2 M0).bind fun v8 => some v8) else if x1 = 4 then ((fX3_greatestPlace v1 v2 M0).bind fun v10 => some v10) else if x1 = 5 then ((fX2_longestBeginning v1 M0).bind fun v12 => some v12) else (some (-1))
theorem fX8_find_s (x1 : Int32) (M0 : xM) : fX8_find x1 M0 = ((fX2_firstReaching 0 M0).bind fun v1 => (fX2_firstReaching 1 M0).bind fun v2 => if x1 = 0 then (some (v2 - v1)) else if x1 = 1 then (some v1) else if x1 = 2 then ((fX3_countTexts v1 v2 M0).bind fun v6 => some v6) else if x1 = 3 then ((fX3_leastPlace v1 v2 M0).bind fun v8 => some v8) else if x1 = 4 then ((fX3_greatestPlace v1 v2 M0).bind fun v10 => some v10) else if x1 = 5 then ((fX2_longestBeginning v1 M0).bind fun v12 => some v12) else (some (-1))) := rfl
set_option maxHeartbeats 4000000 in
set_option maxRecDepth 100000 in
theorem qX8_find (l : Launch) (w : xT) (x1 : Int32) (M0 : xM) (V : Int32) (hm : fX8_find x1 M0 = some V) : xC l yX8_find (Cond.code yX8_find cX8_find 4 (some .int)) { frames := 3, cells := 0, slots := 0, locals := 68 } w [.ref (xa w 0), .int x1] M0 (some (.int V)) M0 := by
  refine xC.of (by decide) (Nat.le_of_ble_eq_true rfl) ?_
  intro p e s m args below meth c ls X hP hS hl
  have hl : lv_has ls 4 [(0, .ref (xa w 0)), (1, .int x1)] := hl
  have X : xX p s m args meth c cX8_find 4 (some .int) RX8 w := X
  have hx := X.1
  have hb := X.2.1
  have hown := X.2.2.2.2.2.1
  have hts := X.2.2.2.2.2.2.1
  rw [fX8_find_s] at hm
  refine lv_aload_n hx hb dX8_find_0 rfl (lv_at hl 0 rfl) ?_
  refine xget xcX8 X hP 0 4 xy0 (by decide) xf_X8_44 rfl dX8_find_1 ?_
  refine lv_iconst (v := 0) hx hb dX8_find_4 (by decide) ?_
  obtain ⟨v1, hg, hm⟩ := xbnd hm
  refine xcallV xm_X8_141 xt_X2_firstReaching X hP hS (qX2_firstReaching l w 0 M0 v1 hg) xy32 rfl ⟨Nat.le_of_ble_eq_true rfl, Nat.le_of_ble_eq_true rfl⟩ ⟨rfl, rfl⟩ hl.1 rfl (rest := []) rfl (Nat.le_of_ble_eq_true rfl) dX8_find_5 ⟨Nat.zero_le _, Nat.zero_le _⟩ (fun H locs hP hS => ?_)
  refine W.eq (g2 := F0 m 8 ls [.int v1]) rfl ?_
  refine lv_istore_n (lv' := [(2, .int v1), (0, .ref (xa w 0)), (1, .int x1)]) hx hb dX8_find_8 rfl hl (by decide) rfl (fun ls hl => ?_)
  refine lv_aload_n hx hb dX8_find_9 rfl (lv_at hl 1 rfl) ?_
  refine xget xcX8 X hP 0 4 xy0 (by decide) xf_X8_44 rfl dX8_find_10 ?_
  refine lv_iconst (v := 1) hx hb dX8_find_13 (by decide) ?_
  obtain ⟨v2, hg, hm⟩ := xbnd hm
  refine xcallV xm_X8_141 xt_X2_firstReaching X hP hS (qX2_firstReaching l w 1 M0 v2 hg) xy32 rfl ⟨Nat.le_of_ble_eq_true rfl, Nat.le_of_ble_eq_true rfl⟩ ⟨rfl, rfl⟩ hl.1 rfl (rest := []) rfl (Nat.le_of_ble_eq_true rfl) dX8_find_14 ⟨Nat.zero_le _, Nat.zero_le _⟩ (fun H locs hP hS => ?_)
  refine W.eq (g2 := F0 m 17 ls [.int v2]) rfl ?_
  refine lv_istore_n (lv' := [(3, .int v2), (2, .int v1), (0, .ref (xa w 0)), (1, .int x1)]) hx hb dX8_find_17 rfl hl (by decide) rfl (fun ls hl => ?_)
  refine lv_iload_n hx hb dX8_find_18 rfl (lv_at hl 3 rfl) ?_
  by_cases c3 : x1 = 0
  · have hm := xift c3 hm
    refine lv_tableIn (tgt := 56) (off := 37) hx hb dX8_find_19 (by rw [c3]; decide) (by rw [c3]; decide) (by rw [c3]; rfl) (by decide) ?_
    refine lv_iload_n hx hb dX8_find_56 rfl (lv_at hl 0 rfl) ?_
    refine lv_iload_n hx hb dX8_find_57 rfl (lv_at hl 1 rfl) ?_
    refine lv_isub hx hb dX8_find_58 ?_
    obtain rfl := Option.some.inj hm
    exact xiret X hP hS dX8_find_59
  have hm := xiff c3 hm
  by_cases c4 : x1 = 1
  · have hm := xift c4 hm
    refine lv_tableIn (tgt := 60) (off := 41) hx hb dX8_find_19 (by rw [c4]; decide) (by rw [c4]; decide) (by rw [c4]; rfl) (by decide) ?_
    refine lv_iload_n hx hb dX8_find_60 rfl (lv_at hl 1 rfl) ?_
    obtain rfl := Option.some.inj hm
    exact xiret X hP hS dX8_find_61
  have hm := xiff c4 hm
  by_cases c5 : x1 = 2
  · have hm := xift c5 hm
    refine lv_tableIn (tgt := 62) (off := 43) hx hb dX8_find_19 (by rw [c5]; decide) (by rw [c5]; decide) (by rw [c5]; rfl) (by decide) ?_
    refine lv_aload_n hx hb dX8_find_62 rfl (lv_at hl 2 rfl) ?_
    refine xget xcX8 X hP 0 2 xy0 (by decide) xf_X8_28 rfl dX8_find_63 ?_
    refine lv_iload_n hx hb dX8_find_66 rfl (lv_at hl 1 rfl) ?_
    refine lv_iload_n hx hb dX8_find_67 rfl (lv_at hl 0 rfl) ?_
    obtain ⟨v6, hg, hm⟩ := xbnd hm
    refine xcallV xm_X8_144 xt_X3_countTexts X hP hS (qX3_countTexts l w v1 v2 M0 v6 hg) xy9 rfl ⟨Nat.le_of_ble_eq_true rfl, Nat.le_of_ble_eq_true rfl⟩ ⟨rfl, rfl⟩ hl.1 rfl (rest := []) rfl (Nat.le_of_ble_eq_true rfl) dX8_find_68 ⟨Nat.zero_le _, Nat.zero_le _⟩ (fun H locs hP hS => ?_)
    refine W.eq (g2 := F0 m 71 ls [.int v6]) rfl ?_
    obtain rfl := Option.some.inj hm
    exact xiret X hP hS dX8_find_71
  have hm := xiff c5 hm
  by_cases c7 : x1 = 3
  · have hm := xift c7 hm
    refine lv_tableIn (tgt := 72) (off := 53) hx hb dX8_find_19 (by rw [c7]; decide) (by rw [c7]; decide) (by rw [c7]; rfl) (by decide) ?_
    refine lv_aload_n hx hb dX8_find_72 rfl (lv_at hl 2 rfl) ?_
    refine xget xcX8 X hP 0 2 xy0 (by decide) xf_X8_28 rfl dX8_find_73 ?_
    refine lv_iload_n hx hb dX8_find_76 rfl (lv_at hl 1 rfl) ?_
    refine lv_iload_n hx hb dX8_find_77 rfl (lv_at hl 0 rfl) ?_
    obtain ⟨v8, hg, hm⟩ := xbnd hm
    refine xcallV xm_X8_148 xt_X3_leastPlace X hP hS (qX3_leastPlace l w v1 v2 M0 v8 hg) xy9 rfl ⟨Nat.le_of_ble_eq_true rfl, Nat.le_of_ble_eq_true rfl⟩ ⟨rfl, rfl⟩ hl.1 rfl (rest := []) rfl (Nat.le_of_ble_eq_true rfl) dX8_find_78 ⟨Nat.zero_le _, Nat.zero_le _⟩ (fun H locs hP hS => ?_)
    refine W.eq (g2 := F0 m 81 ls [.int v8]) rfl ?_
    obtain rfl := Option.some.inj hm
    exact xiret X hP hS dX8_find_81
  have hm := xiff c7 hm
  by_cases c9 : x1 = 4
  · have hm := xift c9 hm
    refine lv_tableIn (tgt := 82) (off := 63) hx hb dX8_find_19 (by rw [c9]; decide) (by rw [c9]; decide) (by rw [c9]; rfl) (by decide) ?_
    refine lv_aload_n hx hb dX8_find_82 rfl (lv_at hl 2 rfl) ?_
    refine xget xcX8 X hP 0 2 xy0 (by decide) xf_X8_28 rfl dX8_find_83 ?_
    refine lv_iload_n hx hb dX8_find_86 rfl (lv_at hl 1 rfl) ?_
    refine lv_iload_n hx hb dX8_find_87 rfl (lv_at hl 0 rfl) ?_
    obtain ⟨v10, hg, hm⟩ := xbnd hm
    refine xcallV xm_X8_151 xt_X3_greatestPlace X hP hS (qX3_greatestPlace l w v1 v2 M0 v10 hg) xy9 rfl ⟨Nat.le_of_ble_eq_true rfl, Nat.le_of_ble_eq_true rfl⟩ ⟨rfl, rfl⟩ hl.1 rfl (rest := []) rfl (Nat.le_of_ble_eq_true rfl) dX8_find_88 ⟨Nat.zero_le _, Nat.zero_le _⟩ (fun H locs hP hS => ?_)
    refine W.eq (g2 := F0 m 91 ls [.int v10]) rfl ?_
    obtain rfl := Option.some.inj hm
    exact xiret X hP hS dX8_find_91
  have hm := xiff c9 hm
  by_cases c11 : x1 = 5
  · have hm := xift c11 hm
    refine lv_tableIn (tgt := 92) (off := 73) hx hb dX8_find_19 (by rw [c11]; decide) (by rw [c11]; decide) (by rw [c11]; rfl) (by decide) ?_
    refine lv_aload_n hx hb dX8_find_92 rfl (lv_at hl 2 rfl) ?_
    refine xget xcX8 X hP 0 4 xy0 (by decide) xf_X8_44 rfl dX8_find_93 ?_
    refine lv_iload_n hx hb dX8_find_96 rfl (lv_at hl 1 rfl) ?_
    obtain ⟨v12, hg, hm⟩ := xbnd hm
    refine xcallV xm_X8_154 xt_X2_longestBeginning X hP hS (qX2_longestBeginning l w v1 M0 v12 hg) xy32 rfl ⟨Nat.le_of_ble_eq_true rfl, Nat.le_of_ble_eq_true rfl⟩ ⟨rfl, rfl⟩ hl.1 rfl (rest := []) rfl (Nat.le_of_ble_eq_true rfl) dX8_find_97 ⟨Nat.zero_le _, Nat.zero_le _⟩ (fun H locs hP hS => ?_)
    refine W.eq (g2 := F0 m 100 ls [.int v12]) rfl ?_
    obtain rfl := Option.some.inj hm
    exact xiret X hP hS dX8_find_100
  have hm := xiff c11 hm
  have gc3 := lv_neT (a := 0) c3 rfl
  have gc4 := lv_neT (a := 1) c4 rfl
  have gc5 := lv_neT (a := 2) c5 rfl
  have gc7 := lv_neT (a := 3) c7 rfl
  have gc9 := lv_neT (a := 4) c9 rfl
  have gc11 := lv_neT (a := 5) c11 rfl
  refine lv_tableOut (tgt := 101) hx hb dX8_find_19 (by omega) (by decide) ?_
  refine lv_iconst (v := (-1)) hx hb dX8_find_101 (by decide) ?_
  obtain rfl := Option.some.inj hm
  exact xiret X hP hS dX8_find_102
def fX9_matched_2  : Nat → Int32 → Int32 → xM → Option (Int32)
  | 0 => fun _ _ _ => none
  | n + 1 => fun x1 x2 M0 => if (M0 37 12) ≤ x2 then (some x2) else (if xin (x1 + x2) 408 then if xin x2 40 then if (M0 40 (x1 + x2).toNatClampNeg) = (M0 47 x2.toNatClampNeg) then (fX9_matched_2 n x1 (x2 + 1) M0) else (some x2) else none else none)
theorem fX9_matched_2_s  (n : Nat) (x1 : Int32) (x2 : Int32) (M0 : xM) : fX9_matched_2  (n + 1) x1 x2 M0 = (if (M0 37 12) ≤ x2 then (some x2) else (if xin (x1 + x2) 408 then if xin x2 40 then if (M0 40 (x1 + x2).toNatClampNeg) = (M0 47 x2.toNatClampNeg) then (fX9_matched_2 n x1 (x2 + 1) M0) else (some x2) else none else none)) := rfl
set_option maxHeartbeats 4000000 in
set_option maxRecDepth 100000 in
theorem kX9_matched_2 {p : Program} {l : Launch} {e : Env} {s : State} {m : MethodId} {args : Array Value} {below : List Frame} {meth : Method} {c : Code} {w : xT} (X : xX p s m args meth c cX9_matched 3 (some .int) RX9 w) (V : Int32)  : ∀ (n : Nat) (x1 : Int32) (x2 : Int32) (M0 : xM) (H : Heap) (locs : List Loc) (ls : Array Slot), fX9_matched_2  n x1 x2 M0 = some V → xP w M0 H → xS w s H locs → lv_has ls 3 [(0, .ref (xa w 37)), (1, .int x1), (2, .int x2)] → W p l e { frames := 0, cells := 0, slots := 0, locals := 0 } s m args below meth c H locs 0 0 (xQ w (some (.int V)) M0 below args s) (F0 m 2 ls []) := by
  have hx := X.1
  have hb := X.2.1
  have hown := X.2.2.2.2.2.1
  have hts := X.2.2.2.2.2.2.1
  intro n
  induction n with
  | zero => intro x1 x2 M0 H locs ls hm hP hS hl; exact xnon hm
  | succ n ih =>
    intro x1 x2 M0 H locs ls hm hP hS hl
    rw [fX9_matched_2_s] at hm
    refine lv_iload_n hx hb dX9_matched_2 rfl (lv_at hl 2 rfl) ?_
    refine lv_aload_n hx hb dX9_matched_3 rfl (lv_at hl 0 rfl) ?_
    refine xgeti xcX9 X hP 37 12 xy37 (by decide) xf_X9_88 rfl dX9_matched_4 ?_
    refine lv_icmp_ge (tgt := 33) hx hb dX9_matched_7 (by decide) (fun c1 => ?_) (fun c1 => ?_)
    · have hm := xift c1 hm
      refine lv_iload_n hx hb dX9_matched_33 rfl (lv_at hl 2 rfl) ?_
      obtain rfl := Option.some.inj hm
      exact xiret X hP hS dX9_matched_34
    · have hm := xiff c1 hm
      refine lv_aload_n hx hb dX9_matched_10 rfl (lv_at hl 0 rfl) ?_
      refine xget xcX9 X hP 37 3 xy37 (by decide) xf_X9_16 rfl dX9_matched_11 ?_
      refine lv_iload_n hx hb dX9_matched_14 rfl (lv_at hl 1 rfl) ?_
      refine lv_iload_n hx hb dX9_matched_15 rfl (lv_at hl 2 rfl) ?_
      refine lv_iadd hx hb dX9_matched_16 ?_
      obtain ⟨hi2, hm⟩ := xifn hm
      refine xiald X hP 40 xy40 hi2 dX9_matched_17 ?_
      refine lv_aload_n hx hb dX9_matched_18 rfl (lv_at hl 0 rfl) ?_
      refine xget xcX9 X hP 37 11 xy37 (by decide) xf_X9_38 rfl dX9_matched_19 ?_
      refine lv_iload_n hx hb dX9_matched_22 rfl (lv_at hl 2 rfl) ?_
      obtain ⟨hi3, hm⟩ := xifn hm
      refine xiald X hP 47 xy47 hi3 dX9_matched_23 ?_
      refine lv_icmp_ne (tgt := 33) hx hb dX9_matched_24 (by decide) (fun c4 => ?_) (fun c4 => ?_)
      · have hm := xiff c4 hm
        refine lv_iload_n hx hb dX9_matched_33 rfl (lv_at hl 2 rfl) ?_
        obtain rfl := Option.some.inj hm
        exact xiret X hP hS dX9_matched_34
      · have hm := xift c4 hm
        refine lv_iinc (v := x2 + 1) (lv' := [(2, .int (x2 + 1)), (0, .ref (xa w 37)), (1, .int x1)]) hx hb dX9_matched_27 hl (k := 2) rfl rfl (by decide) rfl (fun ls hl => ?_)
        refine lv_goto (tgt := 2) hx hb dX9_matched_30 (by decide) ?_
        exact ih x1 (x2 + 1) M0 _ _ _ hm hP hS (lv_sub hl [1, 2, 0] rfl)
def fX9_matched (x1 : Int32) (M0 : xM) : Option (Int32) := fX9_matched_2 4096 x1 0 M0
theorem fX9_matched_s (x1 : Int32) (M0 : xM) : fX9_matched x1 M0 = (fX9_matched_2 4096 x1 0 M0) := rfl
set_option maxHeartbeats 4000000 in
set_option maxRecDepth 100000 in
theorem qX9_matched (l : Launch) (w : xT) (x1 : Int32) (M0 : xM) (V : Int32) (hm : fX9_matched x1 M0 = some V) : xC l yX9_matched (Cond.code yX9_matched cX9_matched 3 (some .int)) { frames := 0, cells := 0, slots := 0, locals := 0 } w [.ref (xa w 37), .int x1] M0 (some (.int V)) M0 := by
  refine xC.of (by decide) (Nat.le_of_ble_eq_true rfl) ?_
  intro p e s m args below meth c ls X hP hS hl
  have hl : lv_has ls 3 [(0, .ref (xa w 37)), (1, .int x1)] := hl
  have X : xX p s m args meth c cX9_matched 3 (some .int) RX9 w := X
  have hx := X.1
  have hb := X.2.1
  have hown := X.2.2.2.2.2.1
  have hts := X.2.2.2.2.2.2.1
  rw [fX9_matched_s] at hm
  refine lv_iconst (v := 0) hx hb dX9_matched_0 (by decide) ?_
  refine lv_istore_n (lv' := [(2, .int 0), (0, .ref (xa w 37)), (1, .int x1)]) hx hb dX9_matched_1 rfl hl (by decide) rfl (fun ls hl => ?_)
  exact kX9_matched_2 X V  4096 x1 0 M0 _ _ _ hm hP hS (lv_sub hl [1, 2, 0] rfl)
