def fX4_induce (x1 : Int32) (x2 : Int32) (M : xM) : Option (xM) := (fX4_countLetters x1 M).bind fun v1 => if xin x1 11 then (fJ7_fill_fda19_14 0 (v1 19 x1.toNatClampNeg) (-1) v1).bind fun v3 => (fX4_putSeeds x1 x2 v3).bind fun v4 => (fX4_induceFalling x1 v4).bind fun v5 => (fX4_induceRising x1 v5).bind fun v6 => some v6 else none
theorem fX4_induce_s (x1 : Int32) (x2 : Int32) (M : xM) : fX4_induce x1 x2 M = ((fX4_countLetters x1 M).bind fun v1 => if xin x1 11 then (fJ7_fill_fda19_14 0 (v1 19 x1.toNatClampNeg) (-1) v1).bind fun v3 => (fX4_putSeeds x1 x2 v3).bind fun v4 => (fX4_induceFalling x1 v4).bind fun v5 => (fX4_induceRising x1 v5).bind fun v6 => some v6 else none) := rfl
set_option maxHeartbeats 4000000 in
set_option maxRecDepth 100000 in
theorem qX4_induce (l : Launch) (w : xT) (x1 : Int32) (x2 : Int32) (M : xM) (V : xM) (hm : fX4_induce x1 x2 M = some V) : xC l yX4_induce (Cond.code yX4_induce cX4_induce 3 none) { frames := 3, cells := 0, slots := 0, locals := 68 } w [.ref (xa w 13), .int x1, .int x2] M none V := by
  refine xC.of (by decide) (Nat.le_of_ble_eq_true rfl) ?_
  intro p e s m args below meth c ls X hP hS hl
  have hl : lv_has ls 3 [(0, .ref (xa w 13)), (1, .int x1), (2, .int x2)] := hl
  have X : xX p s m args meth c cX4_induce 3 none RX4 w := X
  have hx := X.1
  have hb := X.2.1
  have hown := X.2.2.2.2.2.1
  have hts := X.2.2.2.2.2.2.1
  rw [fX4_induce_s] at hm
  refine lv_aload_n hx hb dX4_induce_0 rfl (lv_at hl 0 rfl) ?_
  refine lv_iload_n hx hb dX4_induce_1 rfl (lv_at hl 1 rfl) ?_
  obtain ⟨v1, hg, hm⟩ := xbnd hm
  refine xcallV xm_X4_85 xt_X4_countLetters X hP hS (qX4_countLetters l w x1 M v1 hg) xy13 rfl ⟨Nat.le_of_ble_eq_true rfl, Nat.le_of_ble_eq_true rfl⟩ ⟨rfl, rfl⟩ hl.1 rfl (rest := []) rfl (Nat.le_of_ble_eq_true rfl) dX4_induce_2 ⟨Nat.zero_le _, Nat.zero_le _⟩ (fun H locs hP hS => ?_)
  refine W.eq (g2 := F0 m 5 ls []) rfl ?_
  refine lv_aload_n hx hb dX4_induce_5 rfl (lv_at hl 0 rfl) ?_
  refine xget xcX4 X hP 13 0 xy13 (by decide) xf_X4_9 rfl dX4_induce_6 ?_
  refine lv_iconst (v := 0) hx hb dX4_induce_9 (by decide) ?_
  refine lv_aload_n hx hb dX4_induce_10 rfl (lv_at hl 0 rfl) ?_
  refine xget xcX4 X hP 13 5 xy13 (by decide) xf_X4_28 rfl dX4_induce_11 ?_
  refine lv_iload_n hx hb dX4_induce_14 rfl (lv_at hl 1 rfl) ?_
  obtain ⟨hi2, hm⟩ := xifn hm
  refine xiald X hP 19 xy19 hi2 dX4_induce_15 ?_
  refine lv_iconst (v := (-1)) hx hb dX4_induce_16 (by decide) ?_
  obtain ⟨v3, hg, hm⟩ := xbnd hm
  refine xcallS xm_X4_88 xt_J7_fill_fda19 X hP hS (qJ7_fill_fda19_14 l w 0 (v1 19 x1.toNatClampNeg) (-1) v1 v3 hg) ⟨Nat.le_of_ble_eq_true rfl, Nat.le_of_ble_eq_true rfl⟩ ⟨rfl, rfl⟩ hl.1 rfl (rest := []) rfl (Nat.le_of_ble_eq_true rfl) dX4_induce_17 ⟨Nat.zero_le _, Nat.zero_le _⟩ (fun H locs hP hS => ?_)
  refine W.eq (g2 := F0 m 20 ls []) rfl ?_
  refine lv_aload_n hx hb dX4_induce_20 rfl (lv_at hl 0 rfl) ?_
  refine lv_iload_n hx hb dX4_induce_21 rfl (lv_at hl 1 rfl) ?_
  refine lv_iload_n hx hb dX4_induce_22 rfl (lv_at hl 2 rfl) ?_
  obtain ⟨v4, hg, hm⟩ := xbnd hm
  refine xcallV xm_X4_94 xt_X4_putSeeds X hP hS (qX4_putSeeds l w x1 x2 v3 v4 hg) xy13 rfl ⟨Nat.le_of_ble_eq_true rfl, Nat.le_of_ble_eq_true rfl⟩ ⟨rfl, rfl⟩ hl.1 rfl (rest := []) rfl (Nat.le_of_ble_eq_true rfl) dX4_induce_23 ⟨Nat.zero_le _, Nat.zero_le _⟩ (fun H locs hP hS => ?_)
  refine W.eq (g2 := F0 m 26 ls []) rfl ?_
  refine lv_aload_n hx hb dX4_induce_26 rfl (lv_at hl 0 rfl) ?_
  refine lv_iload_n hx hb dX4_induce_27 rfl (lv_at hl 1 rfl) ?_
  obtain ⟨v5, hg, hm⟩ := xbnd hm
  refine xcallV xm_X4_97 xt_X4_induceFalling X hP hS (qX4_induceFalling l w x1 v4 v5 hg) xy13 rfl ⟨Nat.le_of_ble_eq_true rfl, Nat.le_of_ble_eq_true rfl⟩ ⟨rfl, rfl⟩ hl.1 rfl (rest := []) rfl (Nat.le_of_ble_eq_true rfl) dX4_induce_28 ⟨Nat.zero_le _, Nat.zero_le _⟩ (fun H locs hP hS => ?_)
  refine W.eq (g2 := F0 m 31 ls []) rfl ?_
  refine lv_aload_n hx hb dX4_induce_31 rfl (lv_at hl 0 rfl) ?_
  refine lv_iload_n hx hb dX4_induce_32 rfl (lv_at hl 1 rfl) ?_
  obtain ⟨v6, hg, hm⟩ := xbnd hm
  refine xcallV xm_X4_100 xt_X4_induceRising X hP hS (qX4_induceRising l w x1 v5 v6 hg) xy13 rfl ⟨Nat.le_of_ble_eq_true rfl, Nat.le_of_ble_eq_true rfl⟩ ⟨rfl, rfl⟩ hl.1 rfl (rest := []) rfl (Nat.le_of_ble_eq_true rfl) dX4_induce_33 ⟨Nat.zero_le _, Nat.zero_le _⟩ (fun H locs hP hS => ?_)
  refine W.eq (g2 := F0 m 36 ls []) rfl ?_
  obtain rfl := Option.some.inj hm
  exact xvret X hP hS dX4_induce_36
def fX4_isSamePiece_105 (k11 : Int32 → Int32 → Int32 → Int32 → Int32 → xM → Option (Int32)) (x1 : Int32) (x2 : Int32) (x3 : Int32) (x4 : Int32) (x5 : Int32) (M0 : xM) : Option (Int32) := k11 x1 x2 x3 x4 (x5 + 1) M0
theorem fX4_isSamePiece_105_s (k11 : Int32 → Int32 → Int32 → Int32 → Int32 → xM → Option (Int32)) (x1 : Int32) (x2 : Int32) (x3 : Int32) (x4 : Int32) (x5 : Int32) (M0 : xM) : fX4_isSamePiece_105 k11 x1 x2 x3 x4 x5 M0 = (k11 x1 x2 x3 x4 (x5 + 1) M0) := rfl
set_option maxHeartbeats 4000000 in
set_option maxRecDepth 100000 in
theorem kX4_isSamePiece_105 {p : Program} {l : Launch} {e : Env} {s : State} {m : MethodId} {args : Array Value} {below : List Frame} {meth : Method} {c : Code} {w : xT} (X : xX p s m args meth c cX4_isSamePiece 7 (some .boolean) RX4 w) (V : Int32) (k11 : Int32 → Int32 → Int32 → Int32 → Int32 → xM → Option (Int32)) (hk11 : ∀ (x1 : Int32) (x2 : Int32) (x3 : Int32) (x4 : Int32) (x5 : Int32) (M : xM) (H : Heap) (locs : List Loc) (ls : Array Slot), k11 x1 x2 x3 x4 x5 M = some V → xP w M H → xS w s H locs → lv_has ls 7 [(0, .ref (xa w 13)), (1, .int x1), (2, .int x2), (3, .int x3), (4, .int x4), (5, .int x5)] → W p l e { frames := 1, cells := 0, slots := 0, locals := 23 } s m args below meth c H locs 0 0 (xQ w (some (.int V)) M below args s) (F0 m 11 ls [])) : ∀ (x1 : Int32) (x2 : Int32) (x3 : Int32) (x4 : Int32) (x5 : Int32) (M0 : xM) (H : Heap) (locs : List Loc) (ls : Array Slot), fX4_isSamePiece_105 k11 x1 x2 x3 x4 x5 M0 = some V → xP w M0 H → xS w s H locs → lv_has ls 7 [(0, .ref (xa w 13)), (1, .int x1), (2, .int x2), (3, .int x3), (4, .int x4), (5, .int x5)] → W p l e { frames := 1, cells := 0, slots := 0, locals := 23 } s m args below meth c H locs 0 0 (xQ w (some (.int V)) M0 below args s) (F0 m 105 ls []) := by
  have hx := X.1
  have hb := X.2.1
  have hown := X.2.2.2.2.2.1
  have hts := X.2.2.2.2.2.2.1
  intro x1 x2 x3 x4 x5 M0 H locs ls hm hP hS hl
  rw [fX4_isSamePiece_105_s] at hm
  refine lv_iinc (v := x5 + 1) (lv' := [(5, .int (x5 + 1)), (0, .ref (xa w 13)), (1, .int x1), (2, .int x2), (3, .int x3), (4, .int x4)]) hx hb dX4_isSamePiece_105 hl (k := 5) rfl rfl (by decide) rfl (fun ls hl => ?_)
  refine lv_goto (tgt := 11) hx hb dX4_isSamePiece_108 (by decide) ?_
  exact hk11 x1 x2 x3 x4 (x5 + 1) M0 _ _ _ hm hP hS (lv_sub hl [1, 2, 3, 4, 5, 0] rfl)
def fX4_isSamePiece_11  : Nat → Int32 → Int32 → Int32 → Int32 → Int32 → xM → Option (Int32)
  | 0 => fun _ _ _ _ _ _ => none
  | n + 1 => fun x1 x2 x3 x4 x5 M0 => if xin x1 11 then if (M0 19 x1.toNatClampNeg) ≤ (x2 + x5) then (some 0) else (if xin x1 11 then if (M0 19 x1.toNatClampNeg) ≤ (x3 + x5) then (some 0) else (if xin ((x4 + x2) + x5) 816 then if xin ((x4 + x3) + x5) 816 then if (M0 15 ((x4 + x2) + x5).toNatClampNeg) = (M0 15 ((x4 + x3) + x5).toNatClampNeg) then ((fX4_isTurn x1 (x2 + x5) M0).bind fun v8 => (fX4_isTurn x1 (x3 + x5) M0).bind fun v9 => if v8 = v9 then (if v8 = 0 then (fX4_isSamePiece_105 (fX4_isSamePiece_11 n) x1 x2 x3 x4 x5 M0) else (if x5 ≤ 0 then (fX4_isSamePiece_105 (fX4_isSamePiece_11 n) x1 x2 x3 x4 x5 M0) else (some 1))) else (some 0)) else (some 0) else none else none) else none) else none
theorem fX4_isSamePiece_11_s  (n : Nat) (x1 : Int32) (x2 : Int32) (x3 : Int32) (x4 : Int32) (x5 : Int32) (M0 : xM) : fX4_isSamePiece_11  (n + 1) x1 x2 x3 x4 x5 M0 = (if xin x1 11 then if (M0 19 x1.toNatClampNeg) ≤ (x2 + x5) then (some 0) else (if xin x1 11 then if (M0 19 x1.toNatClampNeg) ≤ (x3 + x5) then (some 0) else (if xin ((x4 + x2) + x5) 816 then if xin ((x4 + x3) + x5) 816 then if (M0 15 ((x4 + x2) + x5).toNatClampNeg) = (M0 15 ((x4 + x3) + x5).toNatClampNeg) then ((fX4_isTurn x1 (x2 + x5) M0).bind fun v8 => (fX4_isTurn x1 (x3 + x5) M0).bind fun v9 => if v8 = v9 then (if v8 = 0 then (fX4_isSamePiece_105 (fX4_isSamePiece_11 n) x1 x2 x3 x4 x5 M0) else (if x5 ≤ 0 then (fX4_isSamePiece_105 (fX4_isSamePiece_11 n) x1 x2 x3 x4 x5 M0) else (some 1))) else (some 0)) else (some 0) else none else none) else none) else none) := rfl
set_option maxHeartbeats 4000000 in
set_option maxRecDepth 100000 in
theorem kX4_isSamePiece_11 {p : Program} {l : Launch} {e : Env} {s : State} {m : MethodId} {args : Array Value} {below : List Frame} {meth : Method} {c : Code} {w : xT} (X : xX p s m args meth c cX4_isSamePiece 7 (some .boolean) RX4 w) (V : Int32)  : ∀ (n : Nat) (x1 : Int32) (x2 : Int32) (x3 : Int32) (x4 : Int32) (x5 : Int32) (M0 : xM) (H : Heap) (locs : List Loc) (ls : Array Slot), fX4_isSamePiece_11  n x1 x2 x3 x4 x5 M0 = some V → xP w M0 H → xS w s H locs → lv_has ls 7 [(0, .ref (xa w 13)), (1, .int x1), (2, .int x2), (3, .int x3), (4, .int x4), (5, .int x5)] → W p l e { frames := 1, cells := 0, slots := 0, locals := 23 } s m args below meth c H locs 0 0 (xQ w (some (.int V)) M0 below args s) (F0 m 11 ls []) := by
  have hx := X.1
  have hb := X.2.1
  have hown := X.2.2.2.2.2.1
  have hts := X.2.2.2.2.2.2.1
  intro n
  induction n with
  | zero => intro x1 x2 x3 x4 x5 M0 H locs ls hm hP hS hl; exact xnon hm
  | succ n ih =>
    intro x1 x2 x3 x4 x5 M0 H locs ls hm hP hS hl
    rw [fX4_isSamePiece_11_s] at hm
    refine lv_iload_n hx hb dX4_isSamePiece_11 rfl (lv_at hl 2 rfl) ?_
    refine lv_iload hx hb dX4_isSamePiece_12 (lv_at hl 5 rfl) ?_
    refine lv_iadd hx hb dX4_isSamePiece_14 ?_
    refine lv_aload_n hx hb dX4_isSamePiece_15 rfl (lv_at hl 0 rfl) ?_
    refine xget xcX4 X hP 13 5 xy13 (by decide) xf_X4_28 rfl dX4_isSamePiece_16 ?_
    refine lv_iload_n hx hb dX4_isSamePiece_19 rfl (lv_at hl 1 rfl) ?_
    obtain ⟨hi1, hm⟩ := xifn hm
    refine xiald X hP 19 xy19 hi1 dX4_isSamePiece_20 ?_
    refine lv_icmp_ge (tgt := 111) hx hb dX4_isSamePiece_21 (by decide) (fun c2 => ?_) (fun c2 => ?_)
    · have hm := xift c2 hm
      refine lv_iconst (v := 0) hx hb dX4_isSamePiece_111 (by decide) ?_
      obtain rfl := Option.some.inj hm
      exact xzret X hP hS rfl dX4_isSamePiece_112
    · have hm := xiff c2 hm
      refine lv_iload_n hx hb dX4_isSamePiece_24 rfl (lv_at hl 3 rfl) ?_
      refine lv_iload hx hb dX4_isSamePiece_25 (lv_at hl 5 rfl) ?_
      refine lv_iadd hx hb dX4_isSamePiece_27 ?_
      refine lv_aload_n hx hb dX4_isSamePiece_28 rfl (lv_at hl 0 rfl) ?_
      refine xget xcX4 X hP 13 5 xy13 (by decide) xf_X4_28 rfl dX4_isSamePiece_29 ?_
      refine lv_iload_n hx hb dX4_isSamePiece_32 rfl (lv_at hl 1 rfl) ?_
      obtain ⟨hi3, hm⟩ := xifn hm
      refine xiald X hP 19 xy19 hi3 dX4_isSamePiece_33 ?_
      refine lv_icmp_ge (tgt := 111) hx hb dX4_isSamePiece_34 (by decide) (fun c4 => ?_) (fun c4 => ?_)
      · have hm := xift c4 hm
        refine lv_iconst (v := 0) hx hb dX4_isSamePiece_111 (by decide) ?_
        obtain rfl := Option.some.inj hm
        exact xzret X hP hS rfl dX4_isSamePiece_112
      · have hm := xiff c4 hm
        refine lv_aload_n hx hb dX4_isSamePiece_37 rfl (lv_at hl 0 rfl) ?_
        refine xget xcX4 X hP 13 1 xy13 (by decide) xf_X4_15 rfl dX4_isSamePiece_38 ?_
        refine lv_iload hx hb dX4_isSamePiece_41 (lv_at hl 4 rfl) ?_
        refine lv_iload_n hx hb dX4_isSamePiece_43 rfl (lv_at hl 2 rfl) ?_
        refine lv_iadd hx hb dX4_isSamePiece_44 ?_
        refine lv_iload hx hb dX4_isSamePiece_45 (lv_at hl 5 rfl) ?_
        refine lv_iadd hx hb dX4_isSamePiece_47 ?_
        obtain ⟨hi5, hm⟩ := xifn hm
        refine xiald X hP 15 xy15 hi5 dX4_isSamePiece_48 ?_
        refine lv_aload_n hx hb dX4_isSamePiece_49 rfl (lv_at hl 0 rfl) ?_
        refine xget xcX4 X hP 13 1 xy13 (by decide) xf_X4_15 rfl dX4_isSamePiece_50 ?_
        refine lv_iload hx hb dX4_isSamePiece_53 (lv_at hl 4 rfl) ?_
        refine lv_iload_n hx hb dX4_isSamePiece_55 rfl (lv_at hl 3 rfl) ?_
        refine lv_iadd hx hb dX4_isSamePiece_56 ?_
        refine lv_iload hx hb dX4_isSamePiece_57 (lv_at hl 5 rfl) ?_
        refine lv_iadd hx hb dX4_isSamePiece_59 ?_
        obtain ⟨hi6, hm⟩ := xifn hm
        refine xiald X hP 15 xy15 hi6 dX4_isSamePiece_60 ?_
        refine lv_icmp_eq (tgt := 66) hx hb dX4_isSamePiece_61 (by decide) (fun c7 => ?_) (fun c7 => ?_)
        · have hm := xift c7 hm
          refine lv_aload_n hx hb dX4_isSamePiece_66 rfl (lv_at hl 0 rfl) ?_
          refine lv_iload_n hx hb dX4_isSamePiece_67 rfl (lv_at hl 1 rfl) ?_
          refine lv_iload_n hx hb dX4_isSamePiece_68 rfl (lv_at hl 2 rfl) ?_
          refine lv_iload hx hb dX4_isSamePiece_69 (lv_at hl 5 rfl) ?_
          refine lv_iadd hx hb dX4_isSamePiece_71 ?_
          obtain ⟨v8, hg, hm⟩ := xbnd hm
          refine xcallV xm_X4_77 xt_X4_isTurn X hP hS (qX4_isTurn l w x1 (x2 + x5) M0 v8 hg) xy13 rfl ⟨Nat.le_of_ble_eq_true rfl, Nat.le_of_ble_eq_true rfl⟩ ⟨rfl, rfl⟩ hl.1 rfl (rest := []) rfl (Nat.le_of_ble_eq_true rfl) dX4_isSamePiece_72 ⟨Nat.zero_le _, Nat.zero_le _⟩ (fun H locs hP hS => ?_)
          refine W.eq (g2 := F0 m 75 ls [.int v8]) rfl ?_
          refine lv_istore (lv' := [(6, .int v8), (0, .ref (xa w 13)), (1, .int x1), (2, .int x2), (3, .int x3), (4, .int x4), (5, .int x5)]) hx hb dX4_isSamePiece_75 hl (by decide) rfl (fun ls hl => ?_)
          refine lv_iload hx hb dX4_isSamePiece_77 (lv_at hl 0 rfl) ?_
          refine lv_aload_n hx hb dX4_isSamePiece_79 rfl (lv_at hl 1 rfl) ?_
          refine lv_iload_n hx hb dX4_isSamePiece_80 rfl (lv_at hl 2 rfl) ?_
          refine lv_iload_n hx hb dX4_isSamePiece_81 rfl (lv_at hl 4 rfl) ?_
          refine lv_iload hx hb dX4_isSamePiece_82 (lv_at hl 6 rfl) ?_
          refine lv_iadd hx hb dX4_isSamePiece_84 ?_
          obtain ⟨v9, hg, hm⟩ := xbnd hm
          refine xcallV xm_X4_77 xt_X4_isTurn X hP hS (qX4_isTurn l w x1 (x3 + x5) M0 v9 hg) xy13 rfl ⟨Nat.le_of_ble_eq_true rfl, Nat.le_of_ble_eq_true rfl⟩ ⟨rfl, rfl⟩ hl.1 rfl (rest := [.int v8]) rfl (Nat.le_of_ble_eq_true rfl) dX4_isSamePiece_85 ⟨Nat.zero_le _, Nat.zero_le _⟩ (fun H locs hP hS => ?_)
          refine W.eq (g2 := F0 m 88 ls [.int v9, .int v8]) rfl ?_
          refine lv_icmp_eq (tgt := 93) hx hb dX4_isSamePiece_88 (by decide) (fun c10 => ?_) (fun c10 => ?_)
          · have hm := xift c10 hm
            refine lv_iload hx hb dX4_isSamePiece_93 (lv_at hl 0 rfl) ?_
            refine lv_if_eq (tgt := 105) hx hb dX4_isSamePiece_95 (by decide) (fun c11 => ?_) (fun c11 => ?_)
            · have hm := xift c11 hm
              exact kX4_isSamePiece_105 X V (fX4_isSamePiece_11 n) ih x1 x2 x3 x4 x5 M0 _ _ _ hm hP hS (lv_sub hl [1, 2, 3, 4, 5, 6] rfl)
            · have hm := xiff c11 hm
              refine lv_iload hx hb dX4_isSamePiece_98 (lv_at hl 6 rfl) ?_
              refine lv_if_le (tgt := 105) hx hb dX4_isSamePiece_100 (by decide) (fun c12 => ?_) (fun c12 => ?_)
              · have hm := xift c12 hm
                exact kX4_isSamePiece_105 X V (fX4_isSamePiece_11 n) ih x1 x2 x3 x4 x5 M0 _ _ _ hm hP hS (lv_sub hl [1, 2, 3, 4, 5, 6] rfl)
              · have hm := xiff c12 hm
                refine lv_iconst (v := 1) hx hb dX4_isSamePiece_103 (by decide) ?_
                obtain rfl := Option.some.inj hm
                exact xzret X hP hS rfl dX4_isSamePiece_104
          · have hm := xiff c10 hm
            refine lv_iconst (v := 0) hx hb dX4_isSamePiece_91 (by decide) ?_
            obtain rfl := Option.some.inj hm
            exact xzret X hP hS rfl dX4_isSamePiece_92
        · have hm := xiff c7 hm
          refine lv_iconst (v := 0) hx hb dX4_isSamePiece_64 (by decide) ?_
          obtain rfl := Option.some.inj hm
          exact xzret X hP hS rfl dX4_isSamePiece_65
def fX4_isSamePiece (x1 : Int32) (x2 : Int32) (x3 : Int32) (M0 : xM) : Option (Int32) := if xin x1 11 then fX4_isSamePiece_11 4096 x1 x2 x3 (M0 18 x1.toNatClampNeg) 0 M0 else none
theorem fX4_isSamePiece_s (x1 : Int32) (x2 : Int32) (x3 : Int32) (M0 : xM) : fX4_isSamePiece x1 x2 x3 M0 = (if xin x1 11 then fX4_isSamePiece_11 4096 x1 x2 x3 (M0 18 x1.toNatClampNeg) 0 M0 else none) := rfl
set_option maxHeartbeats 4000000 in
set_option maxRecDepth 100000 in
theorem qX4_isSamePiece (l : Launch) (w : xT) (x1 : Int32) (x2 : Int32) (x3 : Int32) (M0 : xM) (V : Int32) (hm : fX4_isSamePiece x1 x2 x3 M0 = some V) : xC l yX4_isSamePiece (Cond.code yX4_isSamePiece cX4_isSamePiece 7 (some .boolean)) { frames := 1, cells := 0, slots := 0, locals := 23 } w [.ref (xa w 13), .int x1, .int x2, .int x3] M0 (some (.int V)) M0 := by
  refine xC.of (by decide) (Nat.le_of_ble_eq_true rfl) ?_
  intro p e s m args below meth c ls X hP hS hl
  have hl : lv_has ls 7 [(0, .ref (xa w 13)), (1, .int x1), (2, .int x2), (3, .int x3)] := hl
  have X : xX p s m args meth c cX4_isSamePiece 7 (some .boolean) RX4 w := X
  have hx := X.1
  have hb := X.2.1
  have hown := X.2.2.2.2.2.1
  have hts := X.2.2.2.2.2.2.1
  rw [fX4_isSamePiece_s] at hm
  refine lv_aload_n hx hb dX4_isSamePiece_0 rfl (lv_at hl 0 rfl) ?_
  refine xget xcX4 X hP 13 4 xy13 (by decide) xf_X4_25 rfl dX4_isSamePiece_1 ?_
  refine lv_iload_n hx hb dX4_isSamePiece_4 rfl (lv_at hl 1 rfl) ?_
  obtain ⟨hi13, hm⟩ := xifn hm
  refine xiald X hP 18 xy18 hi13 dX4_isSamePiece_5 ?_
  refine lv_istore (lv' := [(4, .int (M0 18 x1.toNatClampNeg)), (0, .ref (xa w 13)), (1, .int x1), (2, .int x2), (3, .int x3)]) hx hb dX4_isSamePiece_6 hl (by decide) rfl (fun ls hl => ?_)
  refine lv_iconst (v := 0) hx hb dX4_isSamePiece_8 (by decide) ?_
  refine lv_istore (lv' := [(5, .int 0), (4, .int (M0 18 x1.toNatClampNeg)), (0, .ref (xa w 13)), (1, .int x1), (2, .int x2), (3, .int x3)]) hx hb dX4_isSamePiece_9 hl (by decide) rfl (fun ls hl => ?_)
  exact kX4_isSamePiece_11 X V  4096 x1 x2 x3 (M0 18 x1.toNatClampNeg) 0 M0 _ _ _ hm hP hS (lv_sub hl [2, 3, 4, 5, 1, 0] rfl)
def fX4_namePieces_69 (k7 : Int32 → Int32 → Int32 → Int32 → xM → Option (Int32 × xM)) (x1 : Int32) (x2 : Int32) (x3 : Int32) (x4 : Int32) (M : xM) : Option (Int32 × xM) := k7 x1 x2 x3 (x4 + 1) M
theorem fX4_namePieces_69_s (k7 : Int32 → Int32 → Int32 → Int32 → xM → Option (Int32 × xM)) (x1 : Int32) (x2 : Int32) (x3 : Int32) (x4 : Int32) (M : xM) : fX4_namePieces_69 k7 x1 x2 x3 x4 M = (k7 x1 x2 x3 (x4 + 1) M) := rfl
set_option maxHeartbeats 4000000 in
set_option maxRecDepth 100000 in
theorem kX4_namePieces_69 {p : Program} {l : Launch} {e : Env} {s : State} {m : MethodId} {args : Array Value} {below : List Frame} {meth : Method} {c : Code} {w : xT} (X : xX p s m args meth c cX4_namePieces 6 (some .int) RX4 w) (V : Int32 × xM) (k7 : Int32 → Int32 → Int32 → Int32 → xM → Option (Int32 × xM)) (hk7 : ∀ (x1 : Int32) (x2 : Int32) (x3 : Int32) (x4 : Int32) (M : xM) (H : Heap) (locs : List Loc) (ls : Array Slot), k7 x1 x2 x3 x4 M = some V → xP w M H → xS w s H locs → lv_has ls 6 [(0, .ref (xa w 13)), (1, .int x1), (2, .int x2), (3, .int x3), (4, .int x4)] → W p l e { frames := 2, cells := 0, slots := 0, locals := 49 } s m args below meth c H locs 0 0 (xQ w (some (.int V.1)) V.2 below args s) (F0 m 7 ls [])) : ∀ (x1 : Int32) (x2 : Int32) (x3 : Int32) (x4 : Int32) (M : xM) (H : Heap) (locs : List Loc) (ls : Array Slot), fX4_namePieces_69 k7 x1 x2 x3 x4 M = some V → xP w M H → xS w s H locs → lv_has ls 6 [(0, .ref (xa w 13)), (1, .int x1), (2, .int x2), (3, .int x3), (4, .int x4)] → W p l e { frames := 2, cells := 0, slots := 0, locals := 49 } s m args below meth c H locs 0 0 (xQ w (some (.int V.1)) V.2 below args s) (F0 m 69 ls []) := by
  have hx := X.1
  have hb := X.2.1
  have hown := X.2.2.2.2.2.1
  have hts := X.2.2.2.2.2.2.1
  intro x1 x2 x3 x4 M H locs ls hm hP hS hl
  rw [fX4_namePieces_69_s] at hm
  refine lv_iinc (v := x4 + 1) (lv' := [(4, .int (x4 + 1)), (0, .ref (xa w 13)), (1, .int x1), (2, .int x2), (3, .int x3)]) hx hb dX4_namePieces_69 hl (k := 4) rfl rfl (by decide) rfl (fun ls hl => ?_)
  refine lv_goto (tgt := 7) hx hb dX4_namePieces_72 (by decide) ?_
  exact hk7 x1 x2 x3 (x4 + 1) M _ _ _ hm hP hS (lv_sub hl [1, 2, 3, 4, 0] rfl)
def fX4_namePieces_56 (k7 : Int32 → Int32 → Int32 → Int32 → xM → Option (Int32 × xM)) (x1 : Int32) (x2 : Int32) (x4 : Int32) (x5 : Int32) (M : xM) : Option (Int32 × xM) := if xin x5 408 then xlt (xs1 M 22 x5.toNatClampNeg (x2 - 1)) fun M2 => fX4_namePieces_69 k7 x1 x2 x5 x4 M2 else none
theorem fX4_namePieces_56_s (k7 : Int32 → Int32 → Int32 → Int32 → xM → Option (Int32 × xM)) (x1 : Int32) (x2 : Int32) (x4 : Int32) (x5 : Int32) (M : xM) : fX4_namePieces_56 k7 x1 x2 x4 x5 M = (if xin x5 408 then xlt (xs1 M 22 x5.toNatClampNeg (x2 - 1)) fun M2 => fX4_namePieces_69 k7 x1 x2 x5 x4 M2 else none) := rfl
set_option maxHeartbeats 4000000 in
set_option maxRecDepth 100000 in
theorem kX4_namePieces_56 {p : Program} {l : Launch} {e : Env} {s : State} {m : MethodId} {args : Array Value} {below : List Frame} {meth : Method} {c : Code} {w : xT} (X : xX p s m args meth c cX4_namePieces 6 (some .int) RX4 w) (V : Int32 × xM) (k7 : Int32 → Int32 → Int32 → Int32 → xM → Option (Int32 × xM)) (hk7 : ∀ (x1 : Int32) (x2 : Int32) (x3 : Int32) (x4 : Int32) (M : xM) (H : Heap) (locs : List Loc) (ls : Array Slot), k7 x1 x2 x3 x4 M = some V → xP w M H → xS w s H locs → lv_has ls 6 [(0, .ref (xa w 13)), (1, .int x1), (2, .int x2), (3, .int x3), (4, .int x4)] → W p l e { frames := 2, cells := 0, slots := 0, locals := 49 } s m args below meth c H locs 0 0 (xQ w (some (.int V.1)) V.2 below args s) (F0 m 7 ls [])) : ∀ (x1 : Int32) (x2 : Int32) (x4 : Int32) (x5 : Int32) (M : xM) (H : Heap) (locs : List Loc) (ls : Array Slot), fX4_namePieces_56 k7 x1 x2 x4 x5 M = some V → xP w M H → xS w s H locs → lv_has ls 6 [(0, .ref (xa w 13)), (1, .int x1), (2, .int x2), (4, .int x4), (5, .int x5)] → W p l e { frames := 2, cells := 0, slots := 0, locals := 49 } s m args below meth c H locs 0 0 (xQ w (some (.int V.1)) V.2 below args s) (F0 m 56 ls []) := by
  have hx := X.1
  have hb := X.2.1
  have hown := X.2.2.2.2.2.1
  have hts := X.2.2.2.2.2.2.1
  intro x1 x2 x4 x5 M H locs ls hm hP hS hl
  rw [fX4_namePieces_56_s] at hm
  refine lv_aload_n hx hb dX4_namePieces_56 rfl (lv_at hl 0 rfl) ?_
  refine xget xcX4 X hP 13 8 xy13 (by decide) xf_X4_37 rfl dX4_namePieces_57 ?_
  refine lv_iload hx hb dX4_namePieces_60 (lv_at hl 4 rfl) ?_
  refine lv_iload_n hx hb dX4_namePieces_62 rfl (lv_at hl 2 rfl) ?_
  refine lv_iconst (v := 1) hx hb dX4_namePieces_63 (by decide) ?_
  refine lv_isub hx hb dX4_namePieces_64 ?_
  obtain ⟨hi1, hm⟩ := xifn hm
  refine xiast X hP hS 22 xy22 hi1 dX4_namePieces_65 (fun M2 H locs eM2 hP hS => ?_)
  have hm := xltE hm eM2
  refine lv_iload hx hb dX4_namePieces_66 (lv_at hl 4 rfl) ?_
  refine lv_istore_n (lv' := [(3, .int x5), (0, .ref (xa w 13)), (1, .int x1), (2, .int x2), (4, .int x4), (5, .int x5)]) hx hb dX4_namePieces_68 rfl hl (by decide) rfl (fun ls hl => ?_)
  exact kX4_namePieces_69 X V k7 hk7 x1 x2 x5 x4 M2 _ _ _ hm hP hS (lv_sub hl [1, 2, 3, 0, 4] rfl)
def fX4_namePieces_53 (k7 : Int32 → Int32 → Int32 → Int32 → xM → Option (Int32 × xM)) (x1 : Int32) (x2 : Int32) (x4 : Int32) (x5 : Int32) (M : xM) : Option (Int32 × xM) := fX4_namePieces_56 k7 x1 (x2 + 1) x4 x5 M
theorem fX4_namePieces_53_s (k7 : Int32 → Int32 → Int32 → Int32 → xM → Option (Int32 × xM)) (x1 : Int32) (x2 : Int32) (x4 : Int32) (x5 : Int32) (M : xM) : fX4_namePieces_53 k7 x1 x2 x4 x5 M = (fX4_namePieces_56 k7 x1 (x2 + 1) x4 x5 M) := rfl
set_option maxHeartbeats 4000000 in
set_option maxRecDepth 100000 in
theorem kX4_namePieces_53 {p : Program} {l : Launch} {e : Env} {s : State} {m : MethodId} {args : Array Value} {below : List Frame} {meth : Method} {c : Code} {w : xT} (X : xX p s m args meth c cX4_namePieces 6 (some .int) RX4 w) (V : Int32 × xM) (k7 : Int32 → Int32 → Int32 → Int32 → xM → Option (Int32 × xM)) (hk7 : ∀ (x1 : Int32) (x2 : Int32) (x3 : Int32) (x4 : Int32) (M : xM) (H : Heap) (locs : List Loc) (ls : Array Slot), k7 x1 x2 x3 x4 M = some V → xP w M H → xS w s H locs → lv_has ls 6 [(0, .ref (xa w 13)), (1, .int x1), (2, .int x2), (3, .int x3), (4, .int x4)] → W p l e { frames := 2, cells := 0, slots := 0, locals := 49 } s m args below meth c H locs 0 0 (xQ w (some (.int V.1)) V.2 below args s) (F0 m 7 ls [])) : ∀ (x1 : Int32) (x2 : Int32) (x4 : Int32) (x5 : Int32) (M : xM) (H : Heap) (locs : List Loc) (ls : Array Slot), fX4_namePieces_53 k7 x1 x2 x4 x5 M = some V → xP w M H → xS w s H locs → lv_has ls 6 [(0, .ref (xa w 13)), (1, .int x1), (2, .int x2), (4, .int x4), (5, .int x5)] → W p l e { frames := 2, cells := 0, slots := 0, locals := 49 } s m args below meth c H locs 0 0 (xQ w (some (.int V.1)) V.2 below args s) (F0 m 53 ls []) := by
  have hx := X.1
  have hb := X.2.1
  have hown := X.2.2.2.2.2.1
  have hts := X.2.2.2.2.2.2.1
  intro x1 x2 x4 x5 M H locs ls hm hP hS hl
  rw [fX4_namePieces_53_s] at hm
  refine lv_iinc (v := x2 + 1) (lv' := [(2, .int (x2 + 1)), (0, .ref (xa w 13)), (1, .int x1), (4, .int x4), (5, .int x5)]) hx hb dX4_namePieces_53 hl (k := 2) rfl rfl (by decide) rfl (fun ls hl => ?_)
  exact kX4_namePieces_56 X V k7 hk7 x1 (x2 + 1) x4 x5 M _ _ _ hm hP hS (lv_sub hl [1, 2, 0, 3, 4] rfl)
def fX4_namePieces_7  : Nat → Int32 → Int32 → Int32 → Int32 → xM → Option (Int32 × xM)
  | 0 => fun _ _ _ _ _ => none
  | n + 1 => fun x1 x2 x3 x4 M => if xin x1 11 then if (M 19 x1.toNatClampNeg) ≤ x4 then (some (x2, M)) else (if xin x4 408 then (fX4_isTurn x1 (M 14 x4.toNatClampNeg) M).bind fun v6 => if v6 = 0 then (fX4_namePieces_69 (fX4_namePieces_7 n) x1 x2 x3 x4 M) else (if x3 = (-1) then (fX4_namePieces_53 (fX4_namePieces_7 n) x1 x2 x4 (M 14 x4.toNatClampNeg) M) else ((fX4_isSamePiece x1 x3 (M 14 x4.toNatClampNeg) M).bind fun v9 => if v9 = 0 then (fX4_namePieces_53 (fX4_namePieces_7 n) x1 x2 x4 (M 14 x4.toNatClampNeg) M) else (fX4_namePieces_56 (fX4_namePieces_7 n) x1 x2 x4 (M 14 x4.toNatClampNeg) M))) else none) else none
theorem fX4_namePieces_7_s  (n : Nat) (x1 : Int32) (x2 : Int32) (x3 : Int32) (x4 : Int32) (M : xM) : fX4_namePieces_7  (n + 1) x1 x2 x3 x4 M = (if xin x1 11 then if (M 19 x1.toNatClampNeg) ≤ x4 then (some (x2, M)) else (if xin x4 408 then (fX4_isTurn x1 (M 14 x4.toNatClampNeg) M).bind fun v6 => if v6 = 0 then (fX4_namePieces_69 (fX4_namePieces_7 n) x1 x2 x3 x4 M) else (if x3 = (-1) then (fX4_namePieces_53 (fX4_namePieces_7 n) x1 x2 x4 (M 14 x4.toNatClampNeg) M) else ((fX4_isSamePiece x1 x3 (M 14 x4.toNatClampNeg) M).bind fun v9 => if v9 = 0 then (fX4_namePieces_53 (fX4_namePieces_7 n) x1 x2 x4 (M 14 x4.toNatClampNeg) M) else (fX4_namePieces_56 (fX4_namePieces_7 n) x1 x2 x4 (M 14 x4.toNatClampNeg) M))) else none) else none) := rfl
set_option maxHeartbeats 4000000 in
set_option maxRecDepth 100000 in
theorem kX4_namePieces_7 {p : Program} {l : Launch} {e : Env} {s : State} {m : MethodId} {args : Array Value} {below : List Frame} {meth : Method} {c : Code} {w : xT} (X : xX p s m args meth c cX4_namePieces 6 (some .int) RX4 w) (V : Int32 × xM)  : ∀ (n : Nat) (x1 : Int32) (x2 : Int32) (x3 : Int32) (x4 : Int32) (M : xM) (H : Heap) (locs : List Loc) (ls : Array Slot), fX4_namePieces_7  n x1 x2 x3 x4 M = some V → xP w M H → xS w s H locs → lv_has ls 6 [(0, .ref (xa w 13)), (1, .int x1), (2, .int x2), (3, .int x3), (4, .int x4)] → W p l e { frames := 2, cells := 0, slots := 0, locals := 49 } s m args below meth c H locs 0 0 (xQ w (some (.int V.1)) V.2 below args s) (F0 m 7 ls []) := by
  have hx := X.1
  have hb := X.2.1
  have hown := X.2.2.2.2.2.1
  have hts := X.2.2.2.2.2.2.1
  intro n
  induction n with
  | zero => intro x1 x2 x3 x4 M H locs ls hm hP hS hl; exact xnon hm
  | succ n ih =>
    intro x1 x2 x3 x4 M H locs ls hm hP hS hl
    rw [fX4_namePieces_7_s] at hm
    refine lv_iload hx hb dX4_namePieces_7 (lv_at hl 4 rfl) ?_
    refine lv_aload_n hx hb dX4_namePieces_9 rfl (lv_at hl 0 rfl) ?_
    refine xget xcX4 X hP 13 5 xy13 (by decide) xf_X4_28 rfl dX4_namePieces_10 ?_
    refine lv_iload_n hx hb dX4_namePieces_13 rfl (lv_at hl 1 rfl) ?_
    obtain ⟨hi3, hm⟩ := xifn hm
    refine xiald X hP 19 xy19 hi3 dX4_namePieces_14 ?_
    refine lv_icmp_ge (tgt := 75) hx hb dX4_namePieces_15 (by decide) (fun c4 => ?_) (fun c4 => ?_)
    · have hm := xift c4 hm
      refine lv_iload_n hx hb dX4_namePieces_75 rfl (lv_at hl 2 rfl) ?_
      obtain rfl := Option.some.inj hm
      exact xiret X hP hS dX4_namePieces_76
    · have hm := xiff c4 hm
      refine lv_aload_n hx hb dX4_namePieces_18 rfl (lv_at hl 0 rfl) ?_
      refine xget xcX4 X hP 13 0 xy13 (by decide) xf_X4_9 rfl dX4_namePieces_19 ?_
      refine lv_iload hx hb dX4_namePieces_22 (lv_at hl 4 rfl) ?_
      obtain ⟨hi5, hm⟩ := xifn hm
      refine xiald X hP 14 xy14 hi5 dX4_namePieces_24 ?_
      refine lv_istore (lv' := [(5, .int (M 14 x4.toNatClampNeg)), (0, .ref (xa w 13)), (1, .int x1), (2, .int x2), (3, .int x3), (4, .int x4)]) hx hb dX4_namePieces_25 hl (by decide) rfl (fun ls hl => ?_)
      refine lv_aload_n hx hb dX4_namePieces_27 rfl (lv_at hl 1 rfl) ?_
      refine lv_iload_n hx hb dX4_namePieces_28 rfl (lv_at hl 2 rfl) ?_
      refine lv_iload hx hb dX4_namePieces_29 (lv_at hl 0 rfl) ?_
      obtain ⟨v6, hg, hm⟩ := xbnd hm
      refine xcallV xm_X4_77 xt_X4_isTurn X hP hS (qX4_isTurn l w x1 (M 14 x4.toNatClampNeg) M v6 hg) xy13 rfl ⟨Nat.le_of_ble_eq_true rfl, Nat.le_of_ble_eq_true rfl⟩ ⟨rfl, rfl⟩ hl.1 rfl (rest := []) rfl (Nat.le_of_ble_eq_true rfl) dX4_namePieces_31 ⟨Nat.zero_le _, Nat.zero_le _⟩ (fun H locs hP hS => ?_)
      refine W.eq (g2 := F0 m 34 ls [.int v6]) rfl ?_
      refine lv_if_eq (tgt := 69) hx hb dX4_namePieces_34 (by decide) (fun c7 => ?_) (fun c7 => ?_)
      · have hm := xift c7 hm
        exact kX4_namePieces_69 X V (fX4_namePieces_7 n) ih x1 x2 x3 x4 M _ _ _ hm hP hS (lv_sub hl [1, 2, 3, 4, 5] rfl)
      · have hm := xiff c7 hm
        refine lv_iload_n hx hb dX4_namePieces_37 rfl (lv_at hl 4 rfl) ?_
        refine lv_iconst (v := (-1)) hx hb dX4_namePieces_38 (by decide) ?_
        refine lv_icmp_eq (tgt := 53) hx hb dX4_namePieces_39 (by decide) (fun c8 => ?_) (fun c8 => ?_)
        · have hm := xift c8 hm
          exact kX4_namePieces_53 X V (fX4_namePieces_7 n) ih x1 x2 x4 (M 14 x4.toNatClampNeg) M _ _ _ hm hP hS (lv_sub hl [1, 2, 3, 5, 0] rfl)
        · have hm := xiff c8 hm
          refine lv_aload_n hx hb dX4_namePieces_42 rfl (lv_at hl 1 rfl) ?_
          refine lv_iload_n hx hb dX4_namePieces_43 rfl (lv_at hl 2 rfl) ?_
          refine lv_iload_n hx hb dX4_namePieces_44 rfl (lv_at hl 4 rfl) ?_
          refine lv_iload hx hb dX4_namePieces_45 (lv_at hl 0 rfl) ?_
          obtain ⟨v9, hg, hm⟩ := xbnd hm
          refine xcallV xm_X4_81 xt_X4_isSamePiece X hP hS (qX4_isSamePiece l w x1 x3 (M 14 x4.toNatClampNeg) M v9 hg) xy13 rfl ⟨Nat.le_of_ble_eq_true rfl, Nat.le_of_ble_eq_true rfl⟩ ⟨rfl, rfl⟩ hl.1 rfl (rest := []) rfl (Nat.le_of_ble_eq_true rfl) dX4_namePieces_47 ⟨Nat.zero_le _, Nat.zero_le _⟩ (fun H locs hP hS => ?_)
          refine W.eq (g2 := F0 m 50 ls [.int v9]) rfl ?_
          refine lv_if_ne (tgt := 56) hx hb dX4_namePieces_50 (by decide) (fun c10 => ?_) (fun c10 => ?_)
          · have hm := xiff c10 hm
            exact kX4_namePieces_56 X V (fX4_namePieces_7 n) ih x1 x2 x4 (M 14 x4.toNatClampNeg) M _ _ _ hm hP hS (lv_sub hl [1, 2, 3, 5, 0] rfl)
          · have hm := xift c10 hm
            exact kX4_namePieces_53 X V (fX4_namePieces_7 n) ih x1 x2 x4 (M 14 x4.toNatClampNeg) M _ _ _ hm hP hS (lv_sub hl [1, 2, 3, 5, 0] rfl)
def fX4_namePieces (x1 : Int32) (M : xM) : Option (Int32 × xM) := fX4_namePieces_7 4096 x1 0 (-1) 0 M
theorem fX4_namePieces_s (x1 : Int32) (M : xM) : fX4_namePieces x1 M = (fX4_namePieces_7 4096 x1 0 (-1) 0 M) := rfl
set_option maxHeartbeats 4000000 in
set_option maxRecDepth 100000 in
theorem qX4_namePieces (l : Launch) (w : xT) (x1 : Int32) (M : xM) (V : Int32 × xM) (hm : fX4_namePieces x1 M = some V) : xC l yX4_namePieces (Cond.code yX4_namePieces cX4_namePieces 6 (some .int)) { frames := 2, cells := 0, slots := 0, locals := 49 } w [.ref (xa w 13), .int x1] M (some (.int V.1)) V.2 := by
  refine xC.of (by decide) (Nat.le_of_ble_eq_true rfl) ?_
  intro p e s m args below meth c ls X hP hS hl
  have hl : lv_has ls 6 [(0, .ref (xa w 13)), (1, .int x1)] := hl
  have X : xX p s m args meth c cX4_namePieces 6 (some .int) RX4 w := X
  have hx := X.1
  have hb := X.2.1
  have hown := X.2.2.2.2.2.1
  have hts := X.2.2.2.2.2.2.1
  rw [fX4_namePieces_s] at hm
  refine lv_iconst (v := 0) hx hb dX4_namePieces_0 (by decide) ?_
  refine lv_istore_n (lv' := [(2, .int 0), (0, .ref (xa w 13)), (1, .int x1)]) hx hb dX4_namePieces_1 rfl hl (by decide) rfl (fun ls hl => ?_)
  refine lv_iconst (v := (-1)) hx hb dX4_namePieces_2 (by decide) ?_
  refine lv_istore_n (lv' := [(3, .int (-1)), (2, .int 0), (0, .ref (xa w 13)), (1, .int x1)]) hx hb dX4_namePieces_3 rfl hl (by decide) rfl (fun ls hl => ?_)
  refine lv_iconst (v := 0) hx hb dX4_namePieces_4 (by decide) ?_
  refine lv_istore (lv' := [(4, .int 0), (3, .int (-1)), (2, .int 0), (0, .ref (xa w 13)), (1, .int x1)]) hx hb dX4_namePieces_5 hl (by decide) rfl (fun ls hl => ?_)
  exact kX4_namePieces_7 X V  4096 x1 0 (-1) 0 M _ _ _ hm hP hS (lv_sub hl [3, 4, 2, 1, 0] rfl)
def fX4_makeLevelBelow_80  : Nat → Int32 → Int32 → Int32 → xM → Option (xM)
  | 0 => fun _ _ _ _ => none
  | n + 1 => fun x2 x3 x4 M => if x3 ≤ x4 then (some M) else (if xin (x2 + x4) 816 then if xin (M 17 (x2 + x4).toNatClampNeg) 408 then if xin (x2 + x4) 816 then xlt (xs1 M 15 (x2 + x4).toNatClampNeg (M 22 (M 17 (x2 + x4).toNatClampNeg).toNatClampNeg)) fun M5 => fX4_makeLevelBelow_80 n x2 x3 (x4 + 1) M5 else none else none else none)
theorem fX4_makeLevelBelow_80_s  (n : Nat) (x2 : Int32) (x3 : Int32) (x4 : Int32) (M : xM) : fX4_makeLevelBelow_80  (n + 1) x2 x3 x4 M = (if x3 ≤ x4 then (some M) else (if xin (x2 + x4) 816 then if xin (M 17 (x2 + x4).toNatClampNeg) 408 then if xin (x2 + x4) 816 then xlt (xs1 M 15 (x2 + x4).toNatClampNeg (M 22 (M 17 (x2 + x4).toNatClampNeg).toNatClampNeg)) fun M5 => fX4_makeLevelBelow_80 n x2 x3 (x4 + 1) M5 else none else none else none)) := rfl
set_option maxHeartbeats 4000000 in
set_option maxRecDepth 100000 in
theorem kX4_makeLevelBelow_80 {p : Program} {l : Launch} {e : Env} {s : State} {m : MethodId} {args : Array Value} {below : List Frame} {meth : Method} {c : Code} {w : xT} (X : xX p s m args meth c cX4_makeLevelBelow 5 none RX4 w) (V : xM)  : ∀ (n : Nat) (x2 : Int32) (x3 : Int32) (x4 : Int32) (M : xM) (H : Heap) (locs : List Loc) (ls : Array Slot), fX4_makeLevelBelow_80  n x2 x3 x4 M = some V → xP w M H → xS w s H locs → lv_has ls 5 [(0, .ref (xa w 13)), (2, .int x2), (3, .int x3), (4, .int x4)] → W p l e { frames := 4, cells := 0, slots := 0, locals := 90 } s m args below meth c H locs 0 0 (xQ w none V below args s) (F0 m 80 ls []) := by
  have hx := X.1
  have hb := X.2.1
  have hown := X.2.2.2.2.2.1
  have hts := X.2.2.2.2.2.2.1
  intro n
  induction n with
  | zero => intro x2 x3 x4 M H locs ls hm hP hS hl; exact xnon hm
  | succ n ih =>
    intro x2 x3 x4 M H locs ls hm hP hS hl
    rw [fX4_makeLevelBelow_80_s] at hm
    refine lv_iload hx hb dX4_makeLevelBelow_80 (lv_at hl 3 rfl) ?_
    refine lv_iload_n hx hb dX4_makeLevelBelow_82 rfl (lv_at hl 2 rfl) ?_
    refine lv_icmp_ge (tgt := 115) hx hb dX4_makeLevelBelow_83 (by decide) (fun c1 => ?_) (fun c1 => ?_)
    · have hm := xift c1 hm
      obtain rfl := Option.some.inj hm
      exact xvret X hP hS dX4_makeLevelBelow_115
    · have hm := xiff c1 hm
      refine lv_aload_n hx hb dX4_makeLevelBelow_86 rfl (lv_at hl 0 rfl) ?_
      refine xget xcX4 X hP 13 1 xy13 (by decide) xf_X4_15 rfl dX4_makeLevelBelow_87 ?_
      refine lv_iload_n hx hb dX4_makeLevelBelow_90 rfl (lv_at hl 1 rfl) ?_
      refine lv_iload hx hb dX4_makeLevelBelow_91 (lv_at hl 3 rfl) ?_
      refine lv_iadd hx hb dX4_makeLevelBelow_93 ?_
      refine lv_aload_n hx hb dX4_makeLevelBelow_94 rfl (lv_at hl 0 rfl) ?_
      refine xget xcX4 X hP 13 8 xy13 (by decide) xf_X4_37 rfl dX4_makeLevelBelow_95 ?_
      refine lv_aload_n hx hb dX4_makeLevelBelow_98 rfl (lv_at hl 0 rfl) ?_
      refine xget xcX4 X hP 13 3 xy13 (by decide) xf_X4_22 rfl dX4_makeLevelBelow_99 ?_
      refine lv_iload_n hx hb dX4_makeLevelBelow_102 rfl (lv_at hl 1 rfl) ?_
      refine lv_iload hx hb dX4_makeLevelBelow_103 (lv_at hl 3 rfl) ?_
      refine lv_iadd hx hb dX4_makeLevelBelow_105 ?_
      obtain ⟨hi2, hm⟩ := xifn hm
      refine xiald X hP 17 xy17 hi2 dX4_makeLevelBelow_106 ?_
      obtain ⟨hi3, hm⟩ := xifn hm
      refine xiald X hP 22 xy22 hi3 dX4_makeLevelBelow_107 ?_
      obtain ⟨hi4, hm⟩ := xifn hm
      refine xiast X hP hS 15 xy15 hi4 dX4_makeLevelBelow_108 (fun M5 H locs eM5 hP hS => ?_)
      have hm := xltE hm eM5
      refine lv_iinc (v := x4 + 1) (lv' := [(4, .int (x4 + 1)), (0, .ref (xa w 13)), (2, .int x2), (3, .int x3)]) hx hb dX4_makeLevelBelow_109 hl (k := 3) rfl rfl (by decide) rfl (fun ls hl => ?_)
      refine lv_goto (tgt := 80) hx hb dX4_makeLevelBelow_112 (by decide) ?_
      exact ih x2 x3 (x4 + 1) M5 _ _ _ hm hP hS (lv_sub hl [1, 2, 3, 0] rfl)
def fX4_makeLevelBelow (x1 : Int32) (M : xM) : Option (xM) := (fX4_markRises x1 M).bind fun v6 => if xin x1 11 then if xin x1 11 then xlt ((v6 18 x1.toNatClampNeg) + (v6 19 x1.toNatClampNeg)) fun y9 => (fX4_collectTurns x1 y9 v6).bind fun v10 => if xcin y9 0 v10.1 816 408 then xlt (xcp v10.2 17 21 y9 0 v10.1) fun M12 => (fX4_induce x1 v10.1 M12).bind fun v13 => if xin (x1 + 1) 11 then xlt (xs1 v13 18 (x1 + 1).toNatClampNeg y9) fun M15 => if xin (x1 + 1) 11 then xlt (xs1 M15 19 (x1 + 1).toNatClampNeg v10.1) fun M17 => (fX4_namePieces x1 M17).bind fun v18 => if xin (x1 + 1) 11 then xlt (xs1 v18.2 20 (x1 + 1).toNatClampNeg v18.1) fun M20 => fX4_makeLevelBelow_80 4096 y9 v10.1 0 M20 else none else none else none else none else none else none
theorem fX4_makeLevelBelow_s (x1 : Int32) (M : xM) : fX4_makeLevelBelow x1 M = ((fX4_markRises x1 M).bind fun v6 => if xin x1 11 then if xin x1 11 then xlt ((v6 18 x1.toNatClampNeg) + (v6 19 x1.toNatClampNeg)) fun y9 => (fX4_collectTurns x1 y9 v6).bind fun v10 => if xcin y9 0 v10.1 816 408 then xlt (xcp v10.2 17 21 y9 0 v10.1) fun M12 => (fX4_induce x1 v10.1 M12).bind fun v13 => if xin (x1 + 1) 11 then xlt (xs1 v13 18 (x1 + 1).toNatClampNeg y9) fun M15 => if xin (x1 + 1) 11 then xlt (xs1 M15 19 (x1 + 1).toNatClampNeg v10.1) fun M17 => (fX4_namePieces x1 M17).bind fun v18 => if xin (x1 + 1) 11 then xlt (xs1 v18.2 20 (x1 + 1).toNatClampNeg v18.1) fun M20 => fX4_makeLevelBelow_80 4096 y9 v10.1 0 M20 else none else none else none else none else none else none) := rfl
set_option maxHeartbeats 4000000 in
set_option maxRecDepth 100000 in
theorem qX4_makeLevelBelow (l : Launch) (w : xT) (x1 : Int32) (M : xM) (V : xM) (hm : fX4_makeLevelBelow x1 M = some V) : xC l yX4_makeLevelBelow (Cond.code yX4_makeLevelBelow cX4_makeLevelBelow 5 none) { frames := 4, cells := 0, slots := 0, locals := 90 } w [.ref (xa w 13), .int x1] M none V := by
  refine xC.of (by decide) (Nat.le_of_ble_eq_true rfl) ?_
  intro p e s m args below meth c ls X hP hS hl
  have hl : lv_has ls 5 [(0, .ref (xa w 13)), (1, .int x1)] := hl
  have X : xX p s m args meth c cX4_makeLevelBelow 5 none RX4 w := X
  have hx := X.1
  have hb := X.2.1
  have hown := X.2.2.2.2.2.1
  have hts := X.2.2.2.2.2.2.1
  rw [fX4_makeLevelBelow_s] at hm
  refine lv_aload_n hx hb dX4_makeLevelBelow_0 rfl (lv_at hl 0 rfl) ?_
  refine lv_iload_n hx hb dX4_makeLevelBelow_1 rfl (lv_at hl 1 rfl) ?_
  obtain ⟨v6, hg, hm⟩ := xbnd hm
  refine xcallV xm_X4_62 xt_X4_markRises X hP hS (qX4_markRises l w x1 M v6 hg) xy13 rfl ⟨Nat.le_of_ble_eq_true rfl, Nat.le_of_ble_eq_true rfl⟩ ⟨rfl, rfl⟩ hl.1 rfl (rest := []) rfl (Nat.le_of_ble_eq_true rfl) dX4_makeLevelBelow_2 ⟨Nat.zero_le _, Nat.zero_le _⟩ (fun H locs hP hS => ?_)
  refine W.eq (g2 := F0 m 5 ls []) rfl ?_
  refine lv_aload_n hx hb dX4_makeLevelBelow_5 rfl (lv_at hl 0 rfl) ?_
  refine xget xcX4 X hP 13 4 xy13 (by decide) xf_X4_25 rfl dX4_makeLevelBelow_6 ?_
  refine lv_iload_n hx hb dX4_makeLevelBelow_9 rfl (lv_at hl 1 rfl) ?_
  obtain ⟨hi7, hm⟩ := xifn hm
  refine xiald X hP 18 xy18 hi7 dX4_makeLevelBelow_10 ?_
  refine lv_aload_n hx hb dX4_makeLevelBelow_11 rfl (lv_at hl 0 rfl) ?_
  refine xget xcX4 X hP 13 5 xy13 (by decide) xf_X4_28 rfl dX4_makeLevelBelow_12 ?_
  refine lv_iload_n hx hb dX4_makeLevelBelow_15 rfl (lv_at hl 1 rfl) ?_
  obtain ⟨hi8, hm⟩ := xifn hm
  refine xiald X hP 19 xy19 hi8 dX4_makeLevelBelow_16 ?_
  refine lv_iadd hx hb dX4_makeLevelBelow_17 ?_
  refine lv_topi (fun y9 ey9 => ?_)
  have hm := xltE hm ey9
  refine lv_istore_n (lv' := [(2, .int y9), (0, .ref (xa w 13)), (1, .int x1)]) hx hb dX4_makeLevelBelow_18 rfl hl (by decide) rfl (fun ls hl => ?_)
  refine lv_aload_n hx hb dX4_makeLevelBelow_19 rfl (lv_at hl 1 rfl) ?_
  refine lv_iload_n hx hb dX4_makeLevelBelow_20 rfl (lv_at hl 2 rfl) ?_
  refine lv_iload_n hx hb dX4_makeLevelBelow_21 rfl (lv_at hl 0 rfl) ?_
  obtain ⟨v10, hg, hm⟩ := xbnd hm
  refine xcallV xm_X4_65 xt_X4_collectTurns X hP hS (qX4_collectTurns l w x1 y9 v6 v10 hg) xy13 rfl ⟨Nat.le_of_ble_eq_true rfl, Nat.le_of_ble_eq_true rfl⟩ ⟨rfl, rfl⟩ hl.1 rfl (rest := []) rfl (Nat.le_of_ble_eq_true rfl) dX4_makeLevelBelow_22 ⟨Nat.zero_le _, Nat.zero_le _⟩ (fun H locs hP hS => ?_)
  refine W.eq (g2 := F0 m 25 ls [.int v10.1]) rfl ?_
  refine lv_istore_n (lv' := [(3, .int v10.1), (2, .int y9), (0, .ref (xa w 13)), (1, .int x1)]) hx hb dX4_makeLevelBelow_25 rfl hl (by decide) rfl (fun ls hl => ?_)
  refine lv_aload_n hx hb dX4_makeLevelBelow_26 rfl (lv_at hl 2 rfl) ?_
  refine xget xcX4 X hP 13 3 xy13 (by decide) xf_X4_22 rfl dX4_makeLevelBelow_27 ?_
  refine lv_iload_n hx hb dX4_makeLevelBelow_30 rfl (lv_at hl 1 rfl) ?_
  refine lv_aload_n hx hb dX4_makeLevelBelow_31 rfl (lv_at hl 2 rfl) ?_
  refine xget xcX4 X hP 13 7 xy13 (by decide) xf_X4_34 rfl dX4_makeLevelBelow_32 ?_
  refine lv_iconst (v := 0) hx hb dX4_makeLevelBelow_35 (by decide) ?_
  refine lv_iload_n hx hb dX4_makeLevelBelow_36 rfl (lv_at hl 0 rfl) ?_
  obtain ⟨hi11, hm⟩ := xifn hm
  refine xcopy xm_X4_46 xac1 xac2 xac3 X hP hS 17 21 xy17 xy21 hi11 hl.1 (by decide) (by decide) dX4_makeLevelBelow_37 (fun M12 H locs eM12 hP hS => ?_)
  have hm := xltE hm eM12
  refine lv_aload_n hx hb dX4_makeLevelBelow_40 rfl (lv_at hl 2 rfl) ?_
  refine lv_iload_n hx hb dX4_makeLevelBelow_41 rfl (lv_at hl 3 rfl) ?_
  refine lv_iload_n hx hb dX4_makeLevelBelow_42 rfl (lv_at hl 0 rfl) ?_
  obtain ⟨v13, hg, hm⟩ := xbnd hm
  refine xcallV xm_X4_69 xt_X4_induce X hP hS (qX4_induce l w x1 v10.1 M12 v13 hg) xy13 rfl ⟨Nat.le_of_ble_eq_true rfl, Nat.le_of_ble_eq_true rfl⟩ ⟨rfl, rfl⟩ hl.1 rfl (rest := []) rfl (Nat.le_of_ble_eq_true rfl) dX4_makeLevelBelow_43 ⟨Nat.zero_le _, Nat.zero_le _⟩ (fun H locs hP hS => ?_)
  refine W.eq (g2 := F0 m 46 ls []) rfl ?_
  refine lv_aload_n hx hb dX4_makeLevelBelow_46 rfl (lv_at hl 2 rfl) ?_
  refine xget xcX4 X hP 13 4 xy13 (by decide) xf_X4_25 rfl dX4_makeLevelBelow_47 ?_
  refine lv_iload_n hx hb dX4_makeLevelBelow_50 rfl (lv_at hl 3 rfl) ?_
  refine lv_iconst (v := 1) hx hb dX4_makeLevelBelow_51 (by decide) ?_
  refine lv_iadd hx hb dX4_makeLevelBelow_52 ?_
  refine lv_iload_n hx hb dX4_makeLevelBelow_53 rfl (lv_at hl 1 rfl) ?_
  obtain ⟨hi14, hm⟩ := xifn hm
  refine xiast X hP hS 18 xy18 hi14 dX4_makeLevelBelow_54 (fun M15 H locs eM15 hP hS => ?_)
  have hm := xltE hm eM15
  refine lv_aload_n hx hb dX4_makeLevelBelow_55 rfl (lv_at hl 2 rfl) ?_
  refine xget xcX4 X hP 13 5 xy13 (by decide) xf_X4_28 rfl dX4_makeLevelBelow_56 ?_
  refine lv_iload_n hx hb dX4_makeLevelBelow_59 rfl (lv_at hl 3 rfl) ?_
  refine lv_iconst (v := 1) hx hb dX4_makeLevelBelow_60 (by decide) ?_
  refine lv_iadd hx hb dX4_makeLevelBelow_61 ?_
  refine lv_iload_n hx hb dX4_makeLevelBelow_62 rfl (lv_at hl 0 rfl) ?_
  obtain ⟨hi16, hm⟩ := xifn hm
  refine xiast X hP hS 19 xy19 hi16 dX4_makeLevelBelow_63 (fun M17 H locs eM17 hP hS => ?_)
  have hm := xltE hm eM17
  refine lv_aload_n hx hb dX4_makeLevelBelow_64 rfl (lv_at hl 2 rfl) ?_
  refine xget xcX4 X hP 13 6 xy13 (by decide) xf_X4_31 rfl dX4_makeLevelBelow_65 ?_
  refine lv_iload_n hx hb dX4_makeLevelBelow_68 rfl (lv_at hl 3 rfl) ?_
  refine lv_iconst (v := 1) hx hb dX4_makeLevelBelow_69 (by decide) ?_
  refine lv_iadd hx hb dX4_makeLevelBelow_70 ?_
  refine lv_aload_n hx hb dX4_makeLevelBelow_71 rfl (lv_at hl 2 rfl) ?_
  refine lv_iload_n hx hb dX4_makeLevelBelow_72 rfl (lv_at hl 3 rfl) ?_
  obtain ⟨v18, hg, hm⟩ := xbnd hm
  refine xcallV xm_X4_73 xt_X4_namePieces X hP hS (qX4_namePieces l w x1 M17 v18 hg) xy13 rfl ⟨Nat.le_of_ble_eq_true rfl, Nat.le_of_ble_eq_true rfl⟩ ⟨rfl, rfl⟩ hl.1 rfl (rest := [.int (x1 + 1), .ref (xa w 20)]) rfl (Nat.le_of_ble_eq_true rfl) dX4_makeLevelBelow_73 ⟨Nat.zero_le _, Nat.zero_le _⟩ (fun H locs hP hS => ?_)
  refine W.eq (g2 := F0 m 76 ls [.int v18.1, .int (x1 + 1), .ref (xa w 20)]) rfl ?_
  obtain ⟨hi19, hm⟩ := xifn hm
  refine xiast X hP hS 20 xy20 hi19 dX4_makeLevelBelow_76 (fun M20 H locs eM20 hP hS => ?_)
  have hm := xltE hm eM20
  refine lv_iconst (v := 0) hx hb dX4_makeLevelBelow_77 (by decide) ?_
  refine lv_istore (lv' := [(4, .int 0), (3, .int v10.1), (2, .int y9), (0, .ref (xa w 13)), (1, .int x1)]) hx hb dX4_makeLevelBelow_78 hl (by decide) rfl (fun ls hl => ?_)
  exact kX4_makeLevelBelow_80 X V  4096 y9 v10.1 0 M20 _ _ _ hm hP hS (lv_sub hl [3, 2, 1, 0] rfl)
def fX4_orderByNames_2  : Nat → Int32 → Int32 → xM → Option (xM)
  | 0 => fun _ _ _ => none
  | n + 1 => fun x1 x2 M => if xin x1 11 then if (M 19 x1.toNatClampNeg) ≤ x2 then (some M) else (if xin x1 11 then if xin ((M 18 x1.toNatClampNeg) + x2) 816 then if xin (M 15 ((M 18 x1.toNatClampNeg) + x2).toNatClampNeg) 408 then xlt (xs1 M 14 (M 15 ((M 18 x1.toNatClampNeg) + x2).toNatClampNeg).toNatClampNeg x2) fun M6 => fX4_orderByNames_2 n x1 (x2 + 1) M6 else none else none else none) else none
theorem fX4_orderByNames_2_s  (n : Nat) (x1 : Int32) (x2 : Int32) (M : xM) : fX4_orderByNames_2  (n + 1) x1 x2 M = (if xin x1 11 then if (M 19 x1.toNatClampNeg) ≤ x2 then (some M) else (if xin x1 11 then if xin ((M 18 x1.toNatClampNeg) + x2) 816 then if xin (M 15 ((M 18 x1.toNatClampNeg) + x2).toNatClampNeg) 408 then xlt (xs1 M 14 (M 15 ((M 18 x1.toNatClampNeg) + x2).toNatClampNeg).toNatClampNeg x2) fun M6 => fX4_orderByNames_2 n x1 (x2 + 1) M6 else none else none else none) else none) := rfl
set_option maxHeartbeats 4000000 in
set_option maxRecDepth 100000 in
theorem kX4_orderByNames_2 {p : Program} {l : Launch} {e : Env} {s : State} {m : MethodId} {args : Array Value} {below : List Frame} {meth : Method} {c : Code} {w : xT} (X : xX p s m args meth c cX4_orderByNames 3 none RX4 w) (V : xM)  : ∀ (n : Nat) (x1 : Int32) (x2 : Int32) (M : xM) (H : Heap) (locs : List Loc) (ls : Array Slot), fX4_orderByNames_2  n x1 x2 M = some V → xP w M H → xS w s H locs → lv_has ls 3 [(0, .ref (xa w 13)), (1, .int x1), (2, .int x2)] → W p l e { frames := 0, cells := 0, slots := 0, locals := 0 } s m args below meth c H locs 0 0 (xQ w none V below args s) (F0 m 2 ls []) := by
  have hx := X.1
  have hb := X.2.1
  have hown := X.2.2.2.2.2.1
  have hts := X.2.2.2.2.2.2.1
  intro n
  induction n with
  | zero => intro x1 x2 M H locs ls hm hP hS hl; exact xnon hm
  | succ n ih =>
    intro x1 x2 M H locs ls hm hP hS hl
    rw [fX4_orderByNames_2_s] at hm
    refine lv_iload_n hx hb dX4_orderByNames_2 rfl (lv_at hl 2 rfl) ?_
    refine lv_aload_n hx hb dX4_orderByNames_3 rfl (lv_at hl 0 rfl) ?_
    refine xget xcX4 X hP 13 5 xy13 (by decide) xf_X4_28 rfl dX4_orderByNames_4 ?_
    refine lv_iload_n hx hb dX4_orderByNames_7 rfl (lv_at hl 1 rfl) ?_
    obtain ⟨hi1, hm⟩ := xifn hm
    refine xiald X hP 19 xy19 hi1 dX4_orderByNames_8 ?_
    refine lv_icmp_ge (tgt := 37) hx hb dX4_orderByNames_9 (by decide) (fun c2 => ?_) (fun c2 => ?_)
    · have hm := xift c2 hm
      obtain rfl := Option.some.inj hm
      exact xvret X hP hS dX4_orderByNames_37
    · have hm := xiff c2 hm
      refine lv_aload_n hx hb dX4_orderByNames_12 rfl (lv_at hl 0 rfl) ?_
      refine xget xcX4 X hP 13 0 xy13 (by decide) xf_X4_9 rfl dX4_orderByNames_13 ?_
      refine lv_aload_n hx hb dX4_orderByNames_16 rfl (lv_at hl 0 rfl) ?_
      refine xget xcX4 X hP 13 1 xy13 (by decide) xf_X4_15 rfl dX4_orderByNames_17 ?_
      refine lv_aload_n hx hb dX4_orderByNames_20 rfl (lv_at hl 0 rfl) ?_
      refine xget xcX4 X hP 13 4 xy13 (by decide) xf_X4_25 rfl dX4_orderByNames_21 ?_
      refine lv_iload_n hx hb dX4_orderByNames_24 rfl (lv_at hl 1 rfl) ?_
      obtain ⟨hi3, hm⟩ := xifn hm
      refine xiald X hP 18 xy18 hi3 dX4_orderByNames_25 ?_
      refine lv_iload_n hx hb dX4_orderByNames_26 rfl (lv_at hl 2 rfl) ?_
      refine lv_iadd hx hb dX4_orderByNames_27 ?_
      obtain ⟨hi4, hm⟩ := xifn hm
      refine xiald X hP 15 xy15 hi4 dX4_orderByNames_28 ?_
      refine lv_iload_n hx hb dX4_orderByNames_29 rfl (lv_at hl 2 rfl) ?_
      obtain ⟨hi5, hm⟩ := xifn hm
      refine xiast X hP hS 14 xy14 hi5 dX4_orderByNames_30 (fun M6 H locs eM6 hP hS => ?_)
      have hm := xltE hm eM6
      refine lv_iinc (v := x2 + 1) (lv' := [(2, .int (x2 + 1)), (0, .ref (xa w 13)), (1, .int x1)]) hx hb dX4_orderByNames_31 hl (k := 2) rfl rfl (by decide) rfl (fun ls hl => ?_)
      refine lv_goto (tgt := 2) hx hb dX4_orderByNames_34 (by decide) ?_
      exact ih x1 (x2 + 1) M6 _ _ _ hm hP hS (lv_sub hl [1, 2, 0] rfl)
def fX4_orderByNames (x1 : Int32) (M : xM) : Option (xM) := fX4_orderByNames_2 4096 x1 0 M
theorem fX4_orderByNames_s (x1 : Int32) (M : xM) : fX4_orderByNames x1 M = (fX4_orderByNames_2 4096 x1 0 M) := rfl
set_option maxHeartbeats 4000000 in
set_option maxRecDepth 100000 in
theorem qX4_orderByNames (l : Launch) (w : xT) (x1 : Int32) (M : xM) (V : xM) (hm : fX4_orderByNames x1 M = some V) : xC l yX4_orderByNames (Cond.code yX4_orderByNames cX4_orderByNames 3 none) { frames := 0, cells := 0, slots := 0, locals := 0 } w [.ref (xa w 13), .int x1] M none V := by
  refine xC.of (by decide) (Nat.le_of_ble_eq_true rfl) ?_
  intro p e s m args below meth c ls X hP hS hl
  have hl : lv_has ls 3 [(0, .ref (xa w 13)), (1, .int x1)] := hl
  have X : xX p s m args meth c cX4_orderByNames 3 none RX4 w := X
  have hx := X.1
  have hb := X.2.1
  have hown := X.2.2.2.2.2.1
  have hts := X.2.2.2.2.2.2.1
  rw [fX4_orderByNames_s] at hm
  refine lv_iconst (v := 0) hx hb dX4_orderByNames_0 (by decide) ?_
  refine lv_istore_n (lv' := [(2, .int 0), (0, .ref (xa w 13)), (1, .int x1)]) hx hb dX4_orderByNames_1 rfl hl (by decide) rfl (fun ls hl => ?_)
  exact kX4_orderByNames_2 X V  4096 x1 0 M _ _ _ hm hP hS (lv_sub hl [1, 2, 0] rfl)
def fX4_orderFromBelow_48  (x1 : Int32) (x2 : Int32) (M : xM) : Option (xM) := (fX4_induce x1 x2 M).bind fun v1 => some v1
theorem fX4_orderFromBelow_48_s  (x1 : Int32) (x2 : Int32) (M : xM) : fX4_orderFromBelow_48  x1 x2 M = ((fX4_induce x1 x2 M).bind fun v1 => some v1) := rfl
set_option maxHeartbeats 4000000 in
set_option maxRecDepth 100000 in
theorem kX4_orderFromBelow_48 {p : Program} {l : Launch} {e : Env} {s : State} {m : MethodId} {args : Array Value} {below : List Frame} {meth : Method} {c : Code} {w : xT} (X : xX p s m args meth c cX4_orderFromBelow 4 none RX4 w) (V : xM)  : ∀ (x1 : Int32) (x2 : Int32) (M : xM) (H : Heap) (locs : List Loc) (ls : Array Slot), fX4_orderFromBelow_48  x1 x2 M = some V → xP w M H → xS w s H locs → lv_has ls 4 [(0, .ref (xa w 13)), (1, .int x1), (2, .int x2)] → W p l e { frames := 4, cells := 0, slots := 0, locals := 90 } s m args below meth c H locs 0 0 (xQ w none V below args s) (F0 m 48 ls []) := by
  have hx := X.1
  have hb := X.2.1
  have hown := X.2.2.2.2.2.1
  have hts := X.2.2.2.2.2.2.1
  intro x1 x2 M H locs ls hm hP hS hl
  rw [fX4_orderFromBelow_48_s] at hm
  refine lv_aload_n hx hb dX4_orderFromBelow_48 rfl (lv_at hl 0 rfl) ?_
  refine lv_iload_n hx hb dX4_orderFromBelow_49 rfl (lv_at hl 1 rfl) ?_
  refine lv_iload_n hx hb dX4_orderFromBelow_50 rfl (lv_at hl 2 rfl) ?_
  obtain ⟨v1, hg, hm⟩ := xbnd hm
  refine xcallV xm_X4_69 xt_X4_induce X hP hS (qX4_induce l w x1 x2 M v1 hg) xy13 rfl ⟨Nat.le_of_ble_eq_true rfl, Nat.le_of_ble_eq_true rfl⟩ ⟨rfl, rfl⟩ hl.1 rfl (rest := []) rfl (Nat.le_of_ble_eq_true rfl) dX4_orderFromBelow_51 ⟨Nat.zero_le _, Nat.zero_le _⟩ (fun H locs hP hS => ?_)
  refine W.eq (g2 := F0 m 54 ls []) rfl ?_
  obtain rfl := Option.some.inj hm
  exact xvret X hP hS dX4_orderFromBelow_54
def fX4_orderFromBelow_11  : Nat → Int32 → Int32 → Int32 → xM → Option (xM)
  | 0 => fun _ _ _ _ => none
  | n + 1 => fun x1 x2 x3 M => if x2 ≤ x3 then (fX4_orderFromBelow_48 x1 x2 M) else (if xin (x1 + 1) 11 then if xin x3 408 then if xin ((M 18 (x1 + 1).toNatClampNeg) + (M 14 x3.toNatClampNeg)) 816 then if xin x3 408 then xlt (xs1 M 21 x3.toNatClampNeg (M 17 ((M 18 (x1 + 1).toNatClampNeg) + (M 14 x3.toNatClampNeg)).toNatClampNeg)) fun M7 => fX4_orderFromBelow_11 n x1 x2 (x3 + 1) M7 else none else none else none else none)
theorem fX4_orderFromBelow_11_s  (n : Nat) (x1 : Int32) (x2 : Int32) (x3 : Int32) (M : xM) : fX4_orderFromBelow_11  (n + 1) x1 x2 x3 M = (if x2 ≤ x3 then (fX4_orderFromBelow_48 x1 x2 M) else (if xin (x1 + 1) 11 then if xin x3 408 then if xin ((M 18 (x1 + 1).toNatClampNeg) + (M 14 x3.toNatClampNeg)) 816 then if xin x3 408 then xlt (xs1 M 21 x3.toNatClampNeg (M 17 ((M 18 (x1 + 1).toNatClampNeg) + (M 14 x3.toNatClampNeg)).toNatClampNeg)) fun M7 => fX4_orderFromBelow_11 n x1 x2 (x3 + 1) M7 else none else none else none else none)) := rfl
set_option maxHeartbeats 4000000 in
set_option maxRecDepth 100000 in
theorem kX4_orderFromBelow_11 {p : Program} {l : Launch} {e : Env} {s : State} {m : MethodId} {args : Array Value} {below : List Frame} {meth : Method} {c : Code} {w : xT} (X : xX p s m args meth c cX4_orderFromBelow 4 none RX4 w) (V : xM)  : ∀ (n : Nat) (x1 : Int32) (x2 : Int32) (x3 : Int32) (M : xM) (H : Heap) (locs : List Loc) (ls : Array Slot), fX4_orderFromBelow_11  n x1 x2 x3 M = some V → xP w M H → xS w s H locs → lv_has ls 4 [(0, .ref (xa w 13)), (1, .int x1), (2, .int x2), (3, .int x3)] → W p l e { frames := 4, cells := 0, slots := 0, locals := 90 } s m args below meth c H locs 0 0 (xQ w none V below args s) (F0 m 11 ls []) := by
  have hx := X.1
  have hb := X.2.1
  have hown := X.2.2.2.2.2.1
  have hts := X.2.2.2.2.2.2.1
  intro n
  induction n with
  | zero => intro x1 x2 x3 M H locs ls hm hP hS hl; exact xnon hm
  | succ n ih =>
    intro x1 x2 x3 M H locs ls hm hP hS hl
    rw [fX4_orderFromBelow_11_s] at hm
    refine lv_iload_n hx hb dX4_orderFromBelow_11 rfl (lv_at hl 3 rfl) ?_
    refine lv_iload_n hx hb dX4_orderFromBelow_12 rfl (lv_at hl 2 rfl) ?_
    refine lv_icmp_ge (tgt := 48) hx hb dX4_orderFromBelow_13 (by decide) (fun c2 => ?_) (fun c2 => ?_)
    · have hm := xift c2 hm
      exact kX4_orderFromBelow_48 X V  x1 x2 M _ _ _ hm hP hS (lv_sub hl [0, 1, 2] rfl)
    · have hm := xiff c2 hm
      refine lv_aload_n hx hb dX4_orderFromBelow_16 rfl (lv_at hl 0 rfl) ?_
      refine xget xcX4 X hP 13 7 xy13 (by decide) xf_X4_34 rfl dX4_orderFromBelow_17 ?_
      refine lv_iload_n hx hb dX4_orderFromBelow_20 rfl (lv_at hl 3 rfl) ?_
      refine lv_aload_n hx hb dX4_orderFromBelow_21 rfl (lv_at hl 0 rfl) ?_
      refine xget xcX4 X hP 13 3 xy13 (by decide) xf_X4_22 rfl dX4_orderFromBelow_22 ?_
      refine lv_aload_n hx hb dX4_orderFromBelow_25 rfl (lv_at hl 0 rfl) ?_
      refine xget xcX4 X hP 13 4 xy13 (by decide) xf_X4_25 rfl dX4_orderFromBelow_26 ?_
      refine lv_iload_n hx hb dX4_orderFromBelow_29 rfl (lv_at hl 1 rfl) ?_
      refine lv_iconst (v := 1) hx hb dX4_orderFromBelow_30 (by decide) ?_
      refine lv_iadd hx hb dX4_orderFromBelow_31 ?_
      obtain ⟨hi3, hm⟩ := xifn hm
      refine xiald X hP 18 xy18 hi3 dX4_orderFromBelow_32 ?_
      refine lv_aload_n hx hb dX4_orderFromBelow_33 rfl (lv_at hl 0 rfl) ?_
      refine xget xcX4 X hP 13 0 xy13 (by decide) xf_X4_9 rfl dX4_orderFromBelow_34 ?_
      refine lv_iload_n hx hb dX4_orderFromBelow_37 rfl (lv_at hl 3 rfl) ?_
      obtain ⟨hi4, hm⟩ := xifn hm
      refine xiald X hP 14 xy14 hi4 dX4_orderFromBelow_38 ?_
      refine lv_iadd hx hb dX4_orderFromBelow_39 ?_
      obtain ⟨hi5, hm⟩ := xifn hm
      refine xiald X hP 17 xy17 hi5 dX4_orderFromBelow_40 ?_
      obtain ⟨hi6, hm⟩ := xifn hm
      refine xiast X hP hS 21 xy21 hi6 dX4_orderFromBelow_41 (fun M7 H locs eM7 hP hS => ?_)
      have hm := xltE hm eM7
      refine lv_iinc (v := x3 + 1) (lv' := [(3, .int (x3 + 1)), (0, .ref (xa w 13)), (1, .int x1), (2, .int x2)]) hx hb dX4_orderFromBelow_42 hl (k := 3) rfl rfl (by decide) rfl (fun ls hl => ?_)
      refine lv_goto (tgt := 11) hx hb dX4_orderFromBelow_45 (by decide) ?_
      exact ih x1 x2 (x3 + 1) M7 _ _ _ hm hP hS (lv_sub hl [1, 2, 3, 0] rfl)
def fX4_orderFromBelow (x1 : Int32) (M : xM) : Option (xM) := if xin (x1 + 1) 11 then xlt (M 19 (x1 + 1).toNatClampNeg) fun y9 => fX4_orderFromBelow_11 4096 x1 y9 0 M else none
theorem fX4_orderFromBelow_s (x1 : Int32) (M : xM) : fX4_orderFromBelow x1 M = (if xin (x1 + 1) 11 then xlt (M 19 (x1 + 1).toNatClampNeg) fun y9 => fX4_orderFromBelow_11 4096 x1 y9 0 M else none) := rfl
set_option maxHeartbeats 4000000 in
set_option maxRecDepth 100000 in
theorem qX4_orderFromBelow (l : Launch) (w : xT) (x1 : Int32) (M : xM) (V : xM) (hm : fX4_orderFromBelow x1 M = some V) : xC l yX4_orderFromBelow (Cond.code yX4_orderFromBelow cX4_orderFromBelow 4 none) { frames := 4, cells := 0, slots := 0, locals := 90 } w [.ref (xa w 13), .int x1] M none V := by
  refine xC.of (by decide) (Nat.le_of_ble_eq_true rfl) ?_
  intro p e s m args below meth c ls X hP hS hl
  have hl : lv_has ls 4 [(0, .ref (xa w 13)), (1, .int x1)] := hl
  have X : xX p s m args meth c cX4_orderFromBelow 4 none RX4 w := X
  have hx := X.1
  have hb := X.2.1
  have hown := X.2.2.2.2.2.1
  have hts := X.2.2.2.2.2.2.1
  rw [fX4_orderFromBelow_s] at hm
  refine lv_aload_n hx hb dX4_orderFromBelow_0 rfl (lv_at hl 0 rfl) ?_
  refine xget xcX4 X hP 13 5 xy13 (by decide) xf_X4_28 rfl dX4_orderFromBelow_1 ?_
  refine lv_iload_n hx hb dX4_orderFromBelow_4 rfl (lv_at hl 1 rfl) ?_
  refine lv_iconst (v := 1) hx hb dX4_orderFromBelow_5 (by decide) ?_
  refine lv_iadd hx hb dX4_orderFromBelow_6 ?_
  obtain ⟨hi8, hm⟩ := xifn hm
  refine xiald X hP 19 xy19 hi8 dX4_orderFromBelow_7 ?_
  refine lv_topi (fun y9 ey9 => ?_)
  have hm := xltE hm ey9
  refine lv_istore_n (lv' := [(2, .int y9), (0, .ref (xa w 13)), (1, .int x1)]) hx hb dX4_orderFromBelow_8 rfl hl (by decide) rfl (fun ls hl => ?_)
  refine lv_iconst (v := 0) hx hb dX4_orderFromBelow_9 (by decide) ?_
  refine lv_istore_n (lv' := [(3, .int 0), (2, .int y9), (0, .ref (xa w 13)), (1, .int x1)]) hx hb dX4_orderFromBelow_10 rfl hl (by decide) rfl (fun ls hl => ?_)
  exact kX4_orderFromBelow_11 X V  4096 x1 y9 0 M _ _ _ hm hP hS (lv_sub hl [2, 3, 1, 0] rfl)
