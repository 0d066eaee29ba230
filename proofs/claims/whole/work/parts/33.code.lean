def fX9_longest_111  (x2 : Int32) (x3 : Int32) (x4 : Int32) (M0 : xM) : Option (Int32) := (fX9_tellStretch x4 x3 x2 M0).bind fun v1 => some v1
theorem fX9_longest_111_s  (x2 : Int32) (x3 : Int32) (x4 : Int32) (M0 : xM) : fX9_longest_111  x2 x3 x4 M0 = ((fX9_tellStretch x4 x3 x2 M0).bind fun v1 => some v1) := rfl
set_option maxHeartbeats 4000000 in
set_option maxRecDepth 100000 in
theorem kX9_longest_111 {p : Program} {l : Launch} {e : Env} {s : State} {m : MethodId} {args : Array Value} {below : List Frame} {meth : Method} {c : Code} {w : xT} (X : xX p s m args meth c cX9_longest 8 (some .int) RX9 w) (V : Int32)  : ∀ (x2 : Int32) (x3 : Int32) (x4 : Int32) (M0 : xM) (H : Heap) (locs : List Loc) (ls : Array Slot), fX9_longest_111  x2 x3 x4 M0 = some V → xP w M0 H → xS w s H locs → lv_has ls 8 [(0, .ref (xa w 37)), (2, .int x2), (3, .int x3), (4, .int x4)] → W p l e { frames := 2, cells := 0, slots := 0, locals := 50 } s m args below meth c H locs 0 0 (xQ w (some (.int V)) M0 below args s) (F0 m 111 ls []) := by
  have hx := X.1
  have hb := X.2.1
  have hown := X.2.2.2.2.2.1
  have hts := X.2.2.2.2.2.2.1
  intro x2 x3 x4 M0 H locs ls hm hP hS hl
  rw [fX9_longest_111_s] at hm
  refine lv_aload_n hx hb dX9_longest_111 rfl (lv_at hl 0 rfl) ?_
  refine lv_iload hx hb dX9_longest_112 (lv_at hl 3 rfl) ?_
  refine lv_iload_n hx hb dX9_longest_114 rfl (lv_at hl 2 rfl) ?_
  refine lv_iload_n hx hb dX9_longest_115 rfl (lv_at hl 1 rfl) ?_
  obtain ⟨v1, hg, hm⟩ := xbnd hm
  refine xcallV xm_X9_97 xt_X9_tellStretch X hP hS (qX9_tellStretch l w x4 x3 x2 M0 v1 hg) xy37 rfl ⟨Nat.le_of_ble_eq_true rfl, Nat.le_of_ble_eq_true rfl⟩ ⟨rfl, rfl⟩ hl.1 rfl (rest := []) rfl (Nat.le_of_ble_eq_true rfl) dX9_longest_116 ⟨Nat.zero_le _, Nat.zero_le _⟩ (fun H locs hP hS => ?_)
  refine W.eq (g2 := F0 m 119 ls [.int v1]) rfl ?_
  obtain rfl := Option.some.inj hm
  exact xiret X hP hS dX9_longest_119
def fX9_longest_105 (k31 : Int32 → Int32 → Int32 → Int32 → Int32 → xM → Option (Int32)) (x1 : Int32) (x2 : Int32) (x3 : Int32) (x4 : Int32) (x5 : Int32) (M0 : xM) : Option (Int32) := k31 x1 x2 x3 x4 (x5 + 1) M0
theorem fX9_longest_105_s (k31 : Int32 → Int32 → Int32 → Int32 → Int32 → xM → Option (Int32)) (x1 : Int32) (x2 : Int32) (x3 : Int32) (x4 : Int32) (x5 : Int32) (M0 : xM) : fX9_longest_105 k31 x1 x2 x3 x4 x5 M0 = (k31 x1 x2 x3 x4 (x5 + 1) M0) := rfl
set_option maxHeartbeats 4000000 in
set_option maxRecDepth 100000 in
theorem kX9_longest_105 {p : Program} {l : Launch} {e : Env} {s : State} {m : MethodId} {args : Array Value} {below : List Frame} {meth : Method} {c : Code} {w : xT} (X : xX p s m args meth c cX9_longest 8 (some .int) RX9 w) (V : Int32) (k31 : Int32 → Int32 → Int32 → Int32 → Int32 → xM → Option (Int32)) (hk31 : ∀ (x1 : Int32) (x2 : Int32) (x3 : Int32) (x4 : Int32) (x5 : Int32) (M : xM) (H : Heap) (locs : List Loc) (ls : Array Slot), k31 x1 x2 x3 x4 x5 M = some V → xP w M H → xS w s H locs → lv_has ls 8 [(0, .ref (xa w 37)), (1, .int x1), (2, .int x2), (3, .int x3), (4, .int x4), (5, .int x5)] → W p l e { frames := 2, cells := 0, slots := 0, locals := 50 } s m args below meth c H locs 0 0 (xQ w (some (.int V)) M below args s) (F0 m 31 ls [])) : ∀ (x1 : Int32) (x2 : Int32) (x3 : Int32) (x4 : Int32) (x5 : Int32) (M0 : xM) (H : Heap) (locs : List Loc) (ls : Array Slot), fX9_longest_105 k31 x1 x2 x3 x4 x5 M0 = some V → xP w M0 H → xS w s H locs → lv_has ls 8 [(0, .ref (xa w 37)), (1, .int x1), (2, .int x2), (3, .int x3), (4, .int x4), (5, .int x5)] → W p l e { frames := 2, cells := 0, slots := 0, locals := 50 } s m args below meth c H locs 0 0 (xQ w (some (.int V)) M0 below args s) (F0 m 105 ls []) := by
  have hx := X.1
  have hb := X.2.1
  have hown := X.2.2.2.2.2.1
  have hts := X.2.2.2.2.2.2.1
  intro x1 x2 x3 x4 x5 M0 H locs ls hm hP hS hl
  rw [fX9_longest_105_s] at hm
  refine lv_iinc (v := x5 + 1) (lv' := [(5, .int (x5 + 1)), (0, .ref (xa w 37)), (1, .int x1), (2, .int x2), (3, .int x3), (4, .int x4)]) hx hb dX9_longest_105 hl (k := 5) rfl rfl (by decide) rfl (fun ls hl => ?_)
  refine lv_goto (tgt := 31) hx hb dX9_longest_108 (by decide) ?_
  exact hk31 x1 x2 x3 x4 (x5 + 1) M0 _ _ _ hm hP hS (lv_sub hl [1, 2, 3, 4, 5, 0] rfl)
def fX9_longest_92 (k31 : Int32 → Int32 → Int32 → Int32 → Int32 → xM → Option (Int32)) (x1 : Int32) (x2 : Int32) (x3 : Int32) (x4 : Int32) (x5 : Int32) (x6 : Int32) (M0 : xM) : Option (Int32) := if x6 ≤ x3 then (fX9_longest_105 k31 x1 x2 x3 x4 x5 M0) else (fX9_longest_105 k31 x1 x2 x6 x5 x5 M0)
theorem fX9_longest_92_s (k31 : Int32 → Int32 → Int32 → Int32 → Int32 → xM → Option (Int32)) (x1 : Int32) (x2 : Int32) (x3 : Int32) (x4 : Int32) (x5 : Int32) (x6 : Int32) (M0 : xM) : fX9_longest_92 k31 x1 x2 x3 x4 x5 x6 M0 = (if x6 ≤ x3 then (fX9_longest_105 k31 x1 x2 x3 x4 x5 M0) else (fX9_longest_105 k31 x1 x2 x6 x5 x5 M0)) := rfl
set_option maxHeartbeats 4000000 in
set_option maxRecDepth 100000 in
theorem kX9_longest_92 {p : Program} {l : Launch} {e : Env} {s : State} {m : MethodId} {args : Array Value} {below : List Frame} {meth : Method} {c : Code} {w : xT} (X : xX p s m args meth c cX9_longest 8 (some .int) RX9 w) (V : Int32) (k31 : Int32 → Int32 → Int32 → Int32 → Int32 → xM → Option (Int32)) (hk31 : ∀ (x1 : Int32) (x2 : Int32) (x3 : Int32) (x4 : Int32) (x5 : Int32) (M : xM) (H : Heap) (locs : List Loc) (ls : Array Slot), k31 x1 x2 x3 x4 x5 M = some V → xP w M H → xS w s H locs → lv_has ls 8 [(0, .ref (xa w 37)), (1, .int x1), (2, .int x2), (3, .int x3), (4, .int x4), (5, .int x5)] → W p l e { frames := 2, cells := 0, slots := 0, locals := 50 } s m args below meth c H locs 0 0 (xQ w (some (.int V)) M below args s) (F0 m 31 ls [])) : ∀ (x1 : Int32) (x2 : Int32) (x3 : Int32) (x4 : Int32) (x5 : Int32) (x6 : Int32) (M0 : xM) (H : Heap) (locs : List Loc) (ls : Array Slot), fX9_longest_92 k31 x1 x2 x3 x4 x5 x6 M0 = some V → xP w M0 H → xS w s H locs → lv_has ls 8 [(0, .ref (xa w 37)), (1, .int x1), (2, .int x2), (3, .int x3), (4, .int x4), (5, .int x5), (6, .int x6)] → W p l e { frames := 2, cells := 0, slots := 0, locals := 50 } s m args below meth c H locs 0 0 (xQ w (some (.int V)) M0 below args s) (F0 m 92 ls []) := by
  have hx := X.1
  have hb := X.2.1
  have hown := X.2.2.2.2.2.1
  have hts := X.2.2.2.2.2.2.1
  intro x1 x2 x3 x4 x5 x6 M0 H locs ls hm hP hS hl
  rw [fX9_longest_92_s] at hm
  refine lv_iload hx hb dX9_longest_92 (lv_at hl 6 rfl) ?_
  refine lv_iload_n hx hb dX9_longest_94 rfl (lv_at hl 3 rfl) ?_
  refine lv_icmp_le (tgt := 105) hx hb dX9_longest_95 (by decide) (fun c2 => ?_) (fun c2 => ?_)
  · have hm := xift c2 hm
    exact kX9_longest_105 X V k31 hk31 x1 x2 x3 x4 x5 M0 _ _ _ hm hP hS (lv_sub hl [0, 1, 2, 3, 4, 5] rfl)
  · have hm := xiff c2 hm
    refine lv_iload hx hb dX9_longest_98 (lv_at hl 6 rfl) ?_
    refine lv_istore_n (lv' := [(3, .int x6), (0, .ref (xa w 37)), (1, .int x1), (2, .int x2), (4, .int x4), (5, .int x5), (6, .int x6)]) hx hb dX9_longest_100 rfl hl (by decide) rfl (fun ls hl => ?_)
    refine lv_iload hx hb dX9_longest_101 (lv_at hl 5 rfl) ?_
    refine lv_istore (lv' := [(4, .int x5), (3, .int x6), (0, .ref (xa w 37)), (1, .int x1), (2, .int x2), (5, .int x5), (6, .int x6)]) hx hb dX9_longest_103 hl (by decide) rfl (fun ls hl => ?_)
    exact kX9_longest_105 X V k31 hk31 x1 x2 x6 x5 x5 M0 _ _ _ hm hP hS (lv_sub hl [2, 3, 4, 1, 0, 5] rfl)
def fX9_longest_84 (k31 : Int32 → Int32 → Int32 → Int32 → Int32 → xM → Option (Int32)) (k53 : Int32 → Int32 → Int32 → Int32 → Int32 → Int32 → Int32 → xM → Option (Int32)) (x1 : Int32) (x2 : Int32) (x3 : Int32) (x4 : Int32) (x5 : Int32) (x7 : Int32) (s0 : Int32) (M0 : xM) : Option (Int32) := k53 x1 x2 x3 x4 x5 s0 (x7 + 1) M0
theorem fX9_longest_84_s (k31 : Int32 → Int32 → Int32 → Int32 → Int32 → xM → Option (Int32)) (k53 : Int32 → Int32 → Int32 → Int32 → Int32 → Int32 → Int32 → xM → Option (Int32)) (x1 : Int32) (x2 : Int32) (x3 : Int32) (x4 : Int32) (x5 : Int32) (x7 : Int32) (s0 : Int32) (M0 : xM) : fX9_longest_84 k31 k53 x1 x2 x3 x4 x5 x7 s0 M0 = (k53 x1 x2 x3 x4 x5 s0 (x7 + 1) M0) := rfl
set_option maxHeartbeats 4000000 in
set_option maxRecDepth 100000 in
theorem kX9_longest_84 {p : Program} {l : Launch} {e : Env} {s : State} {m : MethodId} {args : Array Value} {below : List Frame} {meth : Method} {c : Code} {w : xT} (X : xX p s m args meth c cX9_longest 8 (some .int) RX9 w) (V : Int32) (k31 : Int32 → Int32 → Int32 → Int32 → Int32 → xM → Option (Int32)) (hk31 : ∀ (x1 : Int32) (x2 : Int32) (x3 : Int32) (x4 : Int32) (x5 : Int32) (M : xM) (H : Heap) (locs : List Loc) (ls : Array Slot), k31 x1 x2 x3 x4 x5 M = some V → xP w M H → xS w s H locs → lv_has ls 8 [(0, .ref (xa w 37)), (1, .int x1), (2, .int x2), (3, .int x3), (4, .int x4), (5, .int x5)] → W p l e { frames := 2, cells := 0, slots := 0, locals := 50 } s m args below meth c H locs 0 0 (xQ w (some (.int V)) M below args s) (F0 m 31 ls [])) (k53 : Int32 → Int32 → Int32 → Int32 → Int32 → Int32 → Int32 → xM → Option (Int32)) (hk53 : ∀ (x1 : Int32) (x2 : Int32) (x3 : Int32) (x4 : Int32) (x5 : Int32) (x6 : Int32) (x7 : Int32) (M : xM) (H : Heap) (locs : List Loc) (ls : Array Slot), k53 x1 x2 x3 x4 x5 x6 x7 M = some V → xP w M H → xS w s H locs → lv_has ls 8 [(0, .ref (xa w 37)), (1, .int x1), (2, .int x2), (3, .int x3), (4, .int x4), (5, .int x5), (6, .int x6), (7, .int x7)] → W p l e { frames := 2, cells := 0, slots := 0, locals := 50 } s m args below meth c H locs 0 0 (xQ w (some (.int V)) M below args s) (F0 m 53 ls [])) : ∀ (x1 : Int32) (x2 : Int32) (x3 : Int32) (x4 : Int32) (x5 : Int32) (x7 : Int32) (s0 : Int32) (M0 : xM) (H : Heap) (locs : List Loc) (ls : Array Slot), fX9_longest_84 k31 k53 x1 x2 x3 x4 x5 x7 s0 M0 = some V → xP w M0 H → xS w s H locs → lv_has ls 8 [(0, .ref (xa w 37)), (1, .int x1), (2, .int x2), (3, .int x3), (4, .int x4), (5, .int x5), (7, .int x7)] → W p l e { frames := 2, cells := 0, slots := 0, locals := 50 } s m args below meth c H locs 0 0 (xQ w (some (.int V)) M0 below args s) (F0 m 84 ls [.int s0]) := by
  have hx := X.1
  have hb := X.2.1
  have hown := X.2.2.2.2.2.1
  have hts := X.2.2.2.2.2.2.1
  intro x1 x2 x3 x4 x5 x7 s0 M0 H locs ls hm hP hS hl
  rw [fX9_longest_84_s] at hm
  refine lv_istore (lv' := [(6, .int s0), (0, .ref (xa w 37)), (1, .int x1), (2, .int x2), (3, .int x3), (4, .int x4), (5, .int x5), (7, .int x7)]) hx hb dX9_longest_84 hl (by decide) rfl (fun ls hl => ?_)
  refine lv_iinc (v := x7 + 1) (lv' := [(7, .int (x7 + 1)), (6, .int s0), (0, .ref (xa w 37)), (1, .int x1), (2, .int x2), (3, .int x3), (4, .int x4), (5, .int x5)]) hx hb dX9_longest_86 hl (k := 7) rfl rfl (by decide) rfl (fun ls hl => ?_)
  refine lv_goto (tgt := 53) hx hb dX9_longest_89 (by decide) ?_
  exact hk53 x1 x2 x3 x4 x5 s0 (x7 + 1) M0 _ _ _ hm hP hS (lv_sub hl [2, 3, 4, 5, 6, 7, 1, 0] rfl)
def fX9_longest_53 (k31 : Int32 → Int32 → Int32 → Int32 → Int32 → xM → Option (Int32)) : Nat → Int32 → Int32 → Int32 → Int32 → Int32 → Int32 → Int32 → xM → Option (Int32)
  | 0 => fun _ _ _ _ _ _ _ _ => none
  | n + 1 => fun x1 x2 x3 x4 x5 x6 x7 M0 => if (x5 + x1) ≤ x7 then (fX9_longest_92 k31 x1 x2 x3 x4 x5 x6 M0) else ((fX9_beside0 x7 M0).bind fun v4 => if x6 ≤ v4 then (fX9_longest_84 k31 (fX9_longest_53 k31 n) x1 x2 x3 x4 x5 x7 x6 M0) else ((fX9_beside0 x7 M0).bind fun v6 => fX9_longest_84 k31 (fX9_longest_53 k31 n) x1 x2 x3 x4 x5 x7 v6 M0))
theorem fX9_longest_53_s (k31 : Int32 → Int32 → Int32 → Int32 → Int32 → xM → Option (Int32)) (n : Nat) (x1 : Int32) (x2 : Int32) (x3 : Int32) (x4 : Int32) (x5 : Int32) (x6 : Int32) (x7 : Int32) (M0 : xM) : fX9_longest_53 k31 (n + 1) x1 x2 x3 x4 x5 x6 x7 M0 = (if (x5 + x1) ≤ x7 then (fX9_longest_92 k31 x1 x2 x3 x4 x5 x6 M0) else ((fX9_beside0 x7 M0).bind fun v4 => if x6 ≤ v4 then (fX9_longest_84 k31 (fX9_longest_53 k31 n) x1 x2 x3 x4 x5 x7 x6 M0) else ((fX9_beside0 x7 M0).bind fun v6 => fX9_longest_84 k31 (fX9_longest_53 k31 n) x1 x2 x3 x4 x5 x7 v6 M0))) := rfl
set_option maxHeartbeats 4000000 in
set_option maxRecDepth 100000 in
theorem kX9_longest_53 {p : Program} {l : Launch} {e : Env} {s : State} {m : MethodId} {args : Array Value} {below : List Frame} {meth : Method} {c : Code} {w : xT} (X : xX p s m args meth c cX9_longest 8 (some .int) RX9 w) (V : Int32) (k31 : Int32 → Int32 → Int32 → Int32 → Int32 → xM → Option (Int32)) (hk31 : ∀ (x1 : Int32) (x2 : Int32) (x3 : Int32) (x4 : Int32) (x5 : Int32) (M : xM) (H : Heap) (locs : List Loc) (ls : Array Slot), k31 x1 x2 x3 x4 x5 M = some V → xP w M H → xS w s H locs → lv_has ls 8 [(0, .ref (xa w 37)), (1, .int x1), (2, .int x2), (3, .int x3), (4, .int x4), (5, .int x5)] → W p l e { frames := 2, cells := 0, slots := 0, locals := 50 } s m args below meth c H locs 0 0 (xQ w (some (.int V)) M below args s) (F0 m 31 ls [])) : ∀ (n : Nat) (x1 : Int32) (x2 : Int32) (x3 : Int32) (x4 : Int32) (x5 : Int32) (x6 : Int32) (x7 : Int32) (M0 : xM) (H : Heap) (locs : List Loc) (ls : Array Slot), fX9_longest_53 k31 n x1 x2 x3 x4 x5 x6 x7 M0 = some V → xP w M0 H → xS w s H locs → lv_has ls 8 [(0, .ref (xa w 37)), (1, .int x1), (2, .int x2), (3, .int x3), (4, .int x4), (5, .int x5), (6, .int x6), (7, .int x7)] → W p l e { frames := 2, cells := 0, slots := 0, locals := 50 } s m args below meth c H locs 0 0 (xQ w (some (.int V)) M0 below args s) (F0 m 53 ls []) := by
  have hx := X.1
  have hb := X.2.1
  have hown := X.2.2.2.2.2.1
  have hts := X.2.2.2.2.2.2.1
  intro n
  induction n with
  | zero => intro x1 x2 x3 x4 x5 x6 x7 M0 H locs ls hm hP hS hl; exact xnon hm
  | succ n ih =>
    intro x1 x2 x3 x4 x5 x6 x7 M0 H locs ls hm hP hS hl
    rw [fX9_longest_53_s] at hm
    refine lv_iload hx hb dX9_longest_53 (lv_at hl 7 rfl) ?_
    refine lv_iload hx hb dX9_longest_55 (lv_at hl 5 rfl) ?_
    refine lv_iload_n hx hb dX9_longest_57 rfl (lv_at hl 1 rfl) ?_
    refine lv_iadd hx hb dX9_longest_58 ?_
    refine lv_icmp_ge (tgt := 92) hx hb dX9_longest_59 (by decide) (fun c3 => ?_) (fun c3 => ?_)
    · have hm := xift c3 hm
      exact kX9_longest_92 X V k31 hk31 x1 x2 x3 x4 x5 x6 M0 _ _ _ hm hP hS (lv_sub hl [0, 1, 2, 3, 4, 5, 6] rfl)
    · have hm := xiff c3 hm
      refine lv_aload_n hx hb dX9_longest_62 rfl (lv_at hl 0 rfl) ?_
      refine lv_iload hx hb dX9_longest_63 (lv_at hl 7 rfl) ?_
      obtain ⟨v4, hg, hm⟩ := xbnd hm
      refine xcallV xm_X9_81 xt_X9_beside0 X hP hS (qX9_beside0 l w x7 M0 v4 hg) xy37 rfl ⟨Nat.le_of_ble_eq_true rfl, Nat.le_of_ble_eq_true rfl⟩ ⟨rfl, rfl⟩ hl.1 rfl (rest := []) rfl (Nat.le_of_ble_eq_true rfl) dX9_longest_65 ⟨Nat.zero_le _, Nat.zero_le _⟩ (fun H locs hP hS => ?_)
      refine W.eq (g2 := F0 m 68 ls [.int v4]) rfl ?_
      refine lv_iload hx hb dX9_longest_68 (lv_at hl 6 rfl) ?_
      refine lv_icmp_ge (tgt := 82) hx hb dX9_longest_70 (by decide) (fun c5 => ?_) (fun c5 => ?_)
      · have hm := xift c5 hm
        refine lv_iload hx hb dX9_longest_82 (lv_at hl 6 rfl) ?_
        exact kX9_longest_84 X V k31 hk31 (fX9_longest_53 k31 n) ih x1 x2 x3 x4 x5 x7 x6 M0 _ _ _ hm hP hS (lv_sub hl [0, 1, 2, 3, 4, 5, 7] rfl)
      · have hm := xiff c5 hm
        refine lv_aload_n hx hb dX9_longest_73 rfl (lv_at hl 0 rfl) ?_
        refine lv_iload hx hb dX9_longest_74 (lv_at hl 7 rfl) ?_
        obtain ⟨v6, hg, hm⟩ := xbnd hm
        refine xcallV xm_X9_81 xt_X9_beside0 X hP hS (qX9_beside0 l w x7 M0 v6 hg) xy37 rfl ⟨Nat.le_of_ble_eq_true rfl, Nat.le_of_ble_eq_true rfl⟩ ⟨rfl, rfl⟩ hl.1 rfl (rest := []) rfl (Nat.le_of_ble_eq_true rfl) dX9_longest_76 ⟨Nat.zero_le _, Nat.zero_le _⟩ (fun H locs hP hS => ?_)
        refine W.eq (g2 := F0 m 79 ls [.int v6]) rfl ?_
        refine lv_goto (tgt := 84) hx hb dX9_longest_79 (by decide) ?_
        exact kX9_longest_84 X V k31 hk31 (fX9_longest_53 k31 n) ih x1 x2 x3 x4 x5 x7 v6 M0 _ _ _ hm hP hS (lv_sub hl [0, 1, 2, 3, 4, 5, 7] rfl)
def fX9_longest_31  : Nat → Int32 → Int32 → Int32 → Int32 → Int32 → xM → Option (Int32)
  | 0 => fun _ _ _ _ _ _ => none
  | n + 1 => fun x1 x2 x3 x4 x5 M0 => if (M0 37 6) < (x5 + x1) then (fX9_longest_111 x2 x3 x4 M0) else (fX9_longest_53 (fX9_longest_31 n) 4096 x1 x2 x3 x4 x5 400 (x5 + 1) M0)
theorem fX9_longest_31_s  (n : Nat) (x1 : Int32) (x2 : Int32) (x3 : Int32) (x4 : Int32) (x5 : Int32) (M0 : xM) : fX9_longest_31  (n + 1) x1 x2 x3 x4 x5 M0 = (if (M0 37 6) < (x5 + x1) then (fX9_longest_111 x2 x3 x4 M0) else (fX9_longest_53 (fX9_longest_31 n) 4096 x1 x2 x3 x4 x5 400 (x5 + 1) M0)) := rfl
set_option maxHeartbeats 4000000 in
set_option maxRecDepth 100000 in
theorem kX9_longest_31 {p : Program} {l : Launch} {e : Env} {s : State} {m : MethodId} {args : Array Value} {below : List Frame} {meth : Method} {c : Code} {w : xT} (X : xX p s m args meth c cX9_longest 8 (some .int) RX9 w) (V : Int32)  : ∀ (n : Nat) (x1 : Int32) (x2 : Int32) (x3 : Int32) (x4 : Int32) (x5 : Int32) (M0 : xM) (H : Heap) (locs : List Loc) (ls : Array Slot), fX9_longest_31  n x1 x2 x3 x4 x5 M0 = some V → xP w M0 H → xS w s H locs → lv_has ls 8 [(0, .ref (xa w 37)), (1, .int x1), (2, .int x2), (3, .int x3), (4, .int x4), (5, .int x5)] → W p l e { frames := 2, cells := 0, slots := 0, locals := 50 } s m args below meth c H locs 0 0 (xQ w (some (.int V)) M0 below args s) (F0 m 31 ls []) := by
  have hx := X.1
  have hb := X.2.1
  have hown := X.2.2.2.2.2.1
  have hts := X.2.2.2.2.2.2.1
  intro n
  induction n with
  | zero => intro x1 x2 x3 x4 x5 M0 H locs ls hm hP hS hl; exact xnon hm
  | succ n ih =>
    intro x1 x2 x3 x4 x5 M0 H locs ls hm hP hS hl
    rw [fX9_longest_31_s] at hm
    refine lv_iload hx hb dX9_longest_31 (lv_at hl 5 rfl) ?_
    refine lv_iload_n hx hb dX9_longest_33 rfl (lv_at hl 1 rfl) ?_
    refine lv_iadd hx hb dX9_longest_34 ?_
    refine lv_aload_n hx hb dX9_longest_35 rfl (lv_at hl 0 rfl) ?_
    refine xgeti xcX9 X hP 37 6 xy37 (by decide) xf_X9_48 rfl dX9_longest_36 ?_
    refine lv_icmp_gt (tgt := 111) hx hb dX9_longest_39 (by decide) (fun c7 => ?_) (fun c7 => ?_)
    · have hm := xift c7 hm
      exact kX9_longest_111 X V  x2 x3 x4 M0 _ _ _ hm hP hS (lv_sub hl [0, 2, 3, 4] rfl)
    · have hm := xiff c7 hm
      refine lv_sipush (v := 400) hx hb dX9_longest_42 (by decide) ?_
      refine lv_istore (lv' := [(6, .int 400), (0, .ref (xa w 37)), (1, .int x1), (2, .int x2), (3, .int x3), (4, .int x4), (5, .int x5)]) hx hb dX9_longest_45 hl (by decide) rfl (fun ls hl => ?_)
      refine lv_iload hx hb dX9_longest_47 (lv_at hl 6 rfl) ?_
      refine lv_iconst (v := 1) hx hb dX9_longest_49 (by decide) ?_
      refine lv_iadd hx hb dX9_longest_50 ?_
      refine lv_istore (lv' := [(7, .int (x5 + 1)), (6, .int 400), (0, .ref (xa w 37)), (1, .int x1), (2, .int x2), (3, .int x3), (4, .int x4), (5, .int x5)]) hx hb dX9_longest_51 hl (by decide) rfl (fun ls hl => ?_)
      exact kX9_longest_53 X V (fX9_longest_31 n) ih 4096 x1 x2 x3 x4 x5 400 (x5 + 1) M0 _ _ _ hm hP hS (lv_sub hl [2, 3, 4, 5, 6, 7, 1, 0] rfl)
def fX9_longest (x1 : Int32) (x2 : Int32) (M0 : xM) : Option (Int32) := if x1 < 2 then (some (-1)) else (if 408 < x1 then (some (-1)) else (if x2 < 0 then (some (-1)) else (if x2 ≤ 2 then (fX9_longest_31 4096 x1 x2 0 0 0 M0) else (some (-1)))))
theorem fX9_longest_s (x1 : Int32) (x2 : Int32) (M0 : xM) : fX9_longest x1 x2 M0 = (if x1 < 2 then (some (-1)) else (if 408 < x1 then (some (-1)) else (if x2 < 0 then (some (-1)) else (if x2 ≤ 2 then (fX9_longest_31 4096 x1 x2 0 0 0 M0) else (some (-1)))))) := rfl
set_option maxHeartbeats 4000000 in
set_option maxRecDepth 100000 in
theorem qX9_longest (l : Launch) (w : xT) (x1 : Int32) (x2 : Int32) (M0 : xM) (V : Int32) (hm : fX9_longest x1 x2 M0 = some V) : xC l yX9_longest (Cond.code yX9_longest cX9_longest 8 (some .int)) { frames := 2, cells := 0, slots := 0, locals := 50 } w [.ref (xa w 37), .int x1, .int x2] M0 (some (.int V)) M0 := by
  refine xC.of (by decide) (Nat.le_of_ble_eq_true rfl) ?_
  intro p e s m args below meth c ls X hP hS hl
  have hl : lv_has ls 8 [(0, .ref (xa w 37)), (1, .int x1), (2, .int x2)] := hl
  have X : xX p s m args meth c cX9_longest 8 (some .int) RX9 w := X
  have hx := X.1
  have hb := X.2.1
  have hown := X.2.2.2.2.2.1
  have hts := X.2.2.2.2.2.2.1
  rw [fX9_longest_s] at hm
  refine lv_iload_n hx hb dX9_longest_0 rfl (lv_at hl 1 rfl) ?_
  refine lv_iconst (v := 2) hx hb dX9_longest_1 (by decide) ?_
  refine lv_icmp_lt (tgt := 21) hx hb dX9_longest_2 (by decide) (fun c8 => ?_) (fun c8 => ?_)
  · have hm := xift c8 hm
    refine lv_iconst (v := (-1)) hx hb dX9_longest_21 (by decide) ?_
    obtain rfl := Option.some.inj hm
    exact xiret X hP hS dX9_longest_22
  · have hm := xiff c8 hm
    refine lv_iload_n hx hb dX9_longest_5 rfl (lv_at hl 1 rfl) ?_
    refine lv_sipush (v := 408) hx hb dX9_longest_6 (by decide) ?_
    refine lv_icmp_gt (tgt := 21) hx hb dX9_longest_9 (by decide) (fun c9 => ?_) (fun c9 => ?_)
    · have hm := xift c9 hm
      refine lv_iconst (v := (-1)) hx hb dX9_longest_21 (by decide) ?_
      obtain rfl := Option.some.inj hm
      exact xiret X hP hS dX9_longest_22
    · have hm := xiff c9 hm
      refine lv_iload_n hx hb dX9_longest_12 rfl (lv_at hl 2 rfl) ?_
      refine lv_if_lt (tgt := 21) hx hb dX9_longest_13 (by decide) (fun c10 => ?_) (fun c10 => ?_)
      · have hm := xift c10 hm
        refine lv_iconst (v := (-1)) hx hb dX9_longest_21 (by decide) ?_
        obtain rfl := Option.some.inj hm
        exact xiret X hP hS dX9_longest_22
      · have hm := xiff c10 hm
        refine lv_iload_n hx hb dX9_longest_16 rfl (lv_at hl 2 rfl) ?_
        refine lv_iconst (v := 2) hx hb dX9_longest_17 (by decide) ?_
        refine lv_icmp_le (tgt := 23) hx hb dX9_longest_18 (by decide) (fun c11 => ?_) (fun c11 => ?_)
        · have hm := xift c11 hm
          refine lv_iconst (v := 0) hx hb dX9_longest_23 (by decide) ?_
          refine lv_istore_n (lv' := [(3, .int 0), (0, .ref (xa w 37)), (1, .int x1), (2, .int x2)]) hx hb dX9_longest_24 rfl hl (by decide) rfl (fun ls hl => ?_)
          refine lv_iconst (v := 0) hx hb dX9_longest_25 (by decide) ?_
          refine lv_istore (lv' := [(4, .int 0), (3, .int 0), (0, .ref (xa w 37)), (1, .int x1), (2, .int x2)]) hx hb dX9_longest_26 hl (by decide) rfl (fun ls hl => ?_)
          refine lv_iconst (v := 0) hx hb dX9_longest_28 (by decide) ?_
          refine lv_istore (lv' := [(5, .int 0), (4, .int 0), (3, .int 0), (0, .ref (xa w 37)), (1, .int x1), (2, .int x2)]) hx hb dX9_longest_29 hl (by decide) rfl (fun ls hl => ?_)
          exact kX9_longest_31 X V  4096 x1 x2 0 0 0 M0 _ _ _ hm hP hS (lv_sub hl [3, 4, 5, 2, 1, 0] rfl)
        · have hm := xiff c11 hm
          refine lv_iconst (v := (-1)) hx hb dX9_longest_21 (by decide) ?_
          obtain rfl := Option.some.inj hm
          exact xiret X hP hS dX9_longest_22
def fX8_shared (x1 : Int32) (x2 : Int32) (M0 : xM) : Option (Int32) := if x1 < 1 then (some (-1)) else (if 8 < x1 then (some (-1)) else (if x2 < 0 then (some (-1)) else (if x2 ≤ 3 then ((fX5_tellLongest x1 1 x2 M0).bind fun v5 => some v5) else (some (-1)))))
theorem fX8_shared_s (x1 : Int32) (x2 : Int32) (M0 : xM) : fX8_shared x1 x2 M0 = (if x1 < 1 then (some (-1)) else (if 8 < x1 then (some (-1)) else (if x2 < 0 then (some (-1)) else (if x2 ≤ 3 then ((fX5_tellLongest x1 1 x2 M0).bind fun v5 => some v5) else (some (-1)))))) := rfl
set_option maxHeartbeats 4000000 in
set_option maxRecDepth 100000 in
theorem qX8_shared (l : Launch) (w : xT) (x1 : Int32) (x2 : Int32) (M0 : xM) (V : Int32) (hm : fX8_shared x1 x2 M0 = some V) : xC l yX8_shared (Cond.code yX8_shared cX8_shared 3 (some .int)) { frames := 6, cells := 0, slots := 0, locals := 145 } w [.ref (xa w 0), .int x1, .int x2] M0 (some (.int V)) M0 := by
  refine xC.of (by decide) (Nat.le_of_ble_eq_true rfl) ?_
  intro p e s m args below meth c ls X hP hS hl
  have hl : lv_has ls 3 [(0, .ref (xa w 0)), (1, .int x1), (2, .int x2)] := hl
  have X : xX p s m args meth c cX8_shared 3 (some .int) RX8 w := X
  have hx := X.1
  have hb := X.2.1
  have hown := X.2.2.2.2.2.1
  have hts := X.2.2.2.2.2.2.1
  rw [fX8_shared_s] at hm
  refine lv_iload_n hx hb dX8_shared_0 rfl (lv_at hl 1 rfl) ?_
  refine lv_iconst (v := 1) hx hb dX8_shared_1 (by decide) ?_
  refine lv_icmp_lt (tgt := 20) hx hb dX8_shared_2 (by decide) (fun c1 => ?_) (fun c1 => ?_)
  · have hm := xift c1 hm
    refine lv_iconst (v := (-1)) hx hb dX8_shared_20 (by decide) ?_
    obtain rfl := Option.some.inj hm
    exact xiret X hP hS dX8_shared_21
  · have hm := xiff c1 hm
    refine lv_iload_n hx hb dX8_shared_5 rfl (lv_at hl 1 rfl) ?_
    refine lv_bipush (v := 8) hx hb dX8_shared_6 (by decide) ?_
    refine lv_icmp_gt (tgt := 20) hx hb dX8_shared_8 (by decide) (fun c2 => ?_) (fun c2 => ?_)
    · have hm := xift c2 hm
      refine lv_iconst (v := (-1)) hx hb dX8_shared_20 (by decide) ?_
      obtain rfl := Option.some.inj hm
      exact xiret X hP hS dX8_shared_21
    · have hm := xiff c2 hm
      refine lv_iload_n hx hb dX8_shared_11 rfl (lv_at hl 2 rfl) ?_
      refine lv_if_lt (tgt := 20) hx hb dX8_shared_12 (by decide) (fun c3 => ?_) (fun c3 => ?_)
      · have hm := xift c3 hm
        refine lv_iconst (v := (-1)) hx hb dX8_shared_20 (by decide) ?_
        obtain rfl := Option.some.inj hm
        exact xiret X hP hS dX8_shared_21
      · have hm := xiff c3 hm
        refine lv_iload_n hx hb dX8_shared_15 rfl (lv_at hl 2 rfl) ?_
        refine lv_iconst (v := 3) hx hb dX8_shared_16 (by decide) ?_
        refine lv_icmp_le (tgt := 22) hx hb dX8_shared_17 (by decide) (fun c4 => ?_) (fun c4 => ?_)
        · have hm := xift c4 hm
          refine lv_aload_n hx hb dX8_shared_22 rfl (lv_at hl 0 rfl) ?_
          refine xget xcX8 X hP 0 5 xy0 (by decide) xf_X8_51 rfl dX8_shared_23 ?_
          refine lv_iload_n hx hb dX8_shared_26 rfl (lv_at hl 1 rfl) ?_
          refine lv_iconst (v := 1) hx hb dX8_shared_27 (by decide) ?_
          refine lv_iload_n hx hb dX8_shared_28 rfl (lv_at hl 2 rfl) ?_
          obtain ⟨v5, hg, hm⟩ := xbnd hm
          refine xcallV xm_X8_167 xt_X5_tellLongest X hP hS (qX5_tellLongest l w x1 1 x2 M0 v5 hg) xy34 rfl ⟨Nat.le_of_ble_eq_true rfl, Nat.le_of_ble_eq_true rfl⟩ ⟨rfl, rfl⟩ hl.1 rfl (rest := []) rfl (Nat.le_of_ble_eq_true rfl) dX8_shared_29 ⟨Nat.zero_le _, Nat.zero_le _⟩ (fun H locs hP hS => ?_)
          refine W.eq (g2 := F0 m 32 ls [.int v5]) rfl ?_
          obtain rfl := Option.some.inj hm
          exact xiret X hP hS dX8_shared_32
        · have hm := xiff c4 hm
          refine lv_iconst (v := (-1)) hx hb dX8_shared_20 (by decide) ?_
          obtain rfl := Option.some.inj hm
          exact xiret X hP hS dX8_shared_21
def fX9_mth_81 (k4 : Int32 → Int32 → Int32 → xM → Option (Int32)) (x1 : Int32) (x3 : Int32) (s0 : Int32) (M0 : xM) : Option (Int32) := k4 x1 s0 (x3 + 1) M0
theorem fX9_mth_81_s (k4 : Int32 → Int32 → Int32 → xM → Option (Int32)) (x1 : Int32) (x3 : Int32) (s0 : Int32) (M0 : xM) : fX9_mth_81 k4 x1 x3 s0 M0 = (k4 x1 s0 (x3 + 1) M0) := rfl
set_option maxHeartbeats 4000000 in
set_option maxRecDepth 100000 in
theorem kX9_mth_81 {p : Program} {l : Launch} {e : Env} {s : State} {m : MethodId} {args : Array Value} {below : List Frame} {meth : Method} {c : Code} {w : xT} (X : xX p s m args meth c cX9_mth 6 (some .int) RX9 w) (V : Int32) (k4 : Int32 → Int32 → Int32 → xM → Option (Int32)) (hk4 : ∀ (x1 : Int32) (x2 : Int32) (x3 : Int32) (M : xM) (H : Heap) (locs : List Loc) (ls : Array Slot), k4 x1 x2 x3 M = some V → xP w M H → xS w s H locs → lv_has ls 6 [(0, .ref (xa w 37)), (1, .int x1), (2, .int x2), (3, .int x3)] → W p l e { frames := 0, cells := 0, slots := 0, locals := 0 } s m args below meth c H locs 0 0 (xQ w (some (.int V)) M below args s) (F0 m 4 ls [])) : ∀ (x1 : Int32) (x3 : Int32) (s0 : Int32) (M0 : xM) (H : Heap) (locs : List Loc) (ls : Array Slot), fX9_mth_81 k4 x1 x3 s0 M0 = some V → xP w M0 H → xS w s H locs → lv_has ls 6 [(0, .ref (xa w 37)), (1, .int x1), (3, .int x3)] → W p l e { frames := 0, cells := 0, slots := 0, locals := 0 } s m args below meth c H locs 0 0 (xQ w (some (.int V)) M0 below args s) (F0 m 81 ls [.int s0]) := by
  have hx := X.1
  have hb := X.2.1
  have hown := X.2.2.2.2.2.1
  have hts := X.2.2.2.2.2.2.1
  intro x1 x3 s0 M0 H locs ls hm hP hS hl
  rw [fX9_mth_81_s] at hm
  refine lv_istore_n (lv' := [(2, .int s0), (0, .ref (xa w 37)), (1, .int x1), (3, .int x3)]) hx hb dX9_mth_81 rfl hl (by decide) rfl (fun ls hl => ?_)
  refine lv_iinc (v := x3 + 1) (lv' := [(3, .int (x3 + 1)), (2, .int s0), (0, .ref (xa w 37)), (1, .int x1)]) hx hb dX9_mth_82 hl (k := 3) rfl rfl (by decide) rfl (fun ls hl => ?_)
  refine lv_goto (tgt := 4) hx hb dX9_mth_85 (by decide) ?_
  exact hk4 x1 s0 (x3 + 1) M0 _ _ _ hm hP hS (lv_sub hl [2, 3, 1, 0] rfl)
def fX9_mth_80 (k4 : Int32 → Int32 → Int32 → xM → Option (Int32)) (x1 : Int32) (x2 : Int32) (x3 : Int32) (M0 : xM) : Option (Int32) := fX9_mth_81 k4 x1 x3 x2 M0
theorem fX9_mth_80_s (k4 : Int32 → Int32 → Int32 → xM → Option (Int32)) (x1 : Int32) (x2 : Int32) (x3 : Int32) (M0 : xM) : fX9_mth_80 k4 x1 x2 x3 M0 = (fX9_mth_81 k4 x1 x3 x2 M0) := rfl
set_option maxHeartbeats 4000000 in
set_option maxRecDepth 100000 in
theorem kX9_mth_80 {p : Program} {l : Launch} {e : Env} {s : State} {m : MethodId} {args : Array Value} {below : List Frame} {meth : Method} {c : Code} {w : xT} (X : xX p s m args meth c cX9_mth 6 (some .int) RX9 w) (V : Int32) (k4 : Int32 → Int32 → Int32 → xM → Option (Int32)) (hk4 : ∀ (x1 : Int32) (x2 : Int32) (x3 : Int32) (M : xM) (H : Heap) (locs : List Loc) (ls : Array Slot), k4 x1 x2 x3 M = some V → xP w M H → xS w s H locs → lv_has ls 6 [(0, .ref (xa w 37)), (1, .int x1), (2, .int x2), (3, .int x3)] → W p l e { frames := 0, cells := 0, slots := 0, locals := 0 } s m args below meth c H locs 0 0 (xQ w (some (.int V)) M below args s) (F0 m 4 ls [])) : ∀ (x1 : Int32) (x2 : Int32) (x3 : Int32) (M0 : xM) (H : Heap) (locs : List Loc) (ls : Array Slot), fX9_mth_80 k4 x1 x2 x3 M0 = some V → xP w M0 H → xS w s H locs → lv_has ls 6 [(0, .ref (xa w 37)), (1, .int x1), (2, .int x2), (3, .int x3)] → W p l e { frames := 0, cells := 0, slots := 0, locals := 0 } s m args below meth c H locs 0 0 (xQ w (some (.int V)) M0 below args s) (F0 m 80 ls []) := by
  have hx := X.1
  have hb := X.2.1
  have hown := X.2.2.2.2.2.1
  have hts := X.2.2.2.2.2.2.1
  intro x1 x2 x3 M0 H locs ls hm hP hS hl
  rw [fX9_mth_80_s] at hm
  refine lv_iload_n hx hb dX9_mth_80 rfl (lv_at hl 2 rfl) ?_
  exact kX9_mth_81 X V k4 hk4 x1 x3 x2 M0 _ _ _ hm hP hS (lv_sub hl [0, 1, 3] rfl)
def fX9_mth_55 (k4 : Int32 → Int32 → Int32 → xM → Option (Int32)) (x1 : Int32) (x2 : Int32) (x3 : Int32) (x4 : Int32) (M0 : xM) : Option (Int32) := if x4 < x1 then (fX9_mth_80 k4 x1 x2 x3 M0) else (if xin x3 8 then if (M0 48 x3.toNatClampNeg) ≤ x2 then (fX9_mth_80 k4 x1 x2 x3 M0) else (if xin x3 8 then fX9_mth_81 k4 x1 x3 (M0 48 x3.toNatClampNeg) M0 else none) else none)
theorem fX9_mth_55_s (k4 : Int32 → Int32 → Int32 → xM → Option (Int32)) (x1 : Int32) (x2 : Int32) (x3 : Int32) (x4 : Int32) (M0 : xM) : fX9_mth_55 k4 x1 x2 x3 x4 M0 = (if x4 < x1 then (fX9_mth_80 k4 x1 x2 x3 M0) else (if xin x3 8 then if (M0 48 x3.toNatClampNeg) ≤ x2 then (fX9_mth_80 k4 x1 x2 x3 M0) else (if xin x3 8 then fX9_mth_81 k4 x1 x3 (M0 48 x3.toNatClampNeg) M0 else none) else none)) := rfl
set_option maxHeartbeats 4000000 in
set_option maxRecDepth 100000 in
theorem kX9_mth_55 {p : Program} {l : Launch} {e : Env} {s : State} {m : MethodId} {args : Array Value} {below : List Frame} {meth : Method} {c : Code} {w : xT} (X : xX p s m args meth c cX9_mth 6 (some .int) RX9 w) (V : Int32) (k4 : Int32 → Int32 → Int32 → xM → Option (Int32)) (hk4 : ∀ (x1 : Int32) (x2 : Int32) (x3 : Int32) (M : xM) (H : Heap) (locs : List Loc) (ls : Array Slot), k4 x1 x2 x3 M = some V → xP w M H → xS w s H locs → lv_has ls 6 [(0, .ref (xa w 37)), (1, .int x1), (2, .int x2), (3, .int x3)] → W p l e { frames := 0, cells := 0, slots := 0, locals := 0 } s m args below meth c H locs 0 0 (xQ w (some (.int V)) M below args s) (F0 m 4 ls [])) : ∀ (x1 : Int32) (x2 : Int32) (x3 : Int32) (x4 : Int32) (M0 : xM) (H : Heap) (locs : List Loc) (ls : Array Slot), fX9_mth_55 k4 x1 x2 x3 x4 M0 = some V → xP w M0 H → xS w s H locs → lv_has ls 6 [(0, .ref (xa w 37)), (1, .int x1), (2, .int x2), (3, .int x3), (4, .int x4)] → W p l e { frames := 0, cells := 0, slots := 0, locals := 0 } s m args below meth c H locs 0 0 (xQ w (some (.int V)) M0 below args s) (F0 m 55 ls []) := by
  have hx := X.1
  have hb := X.2.1
  have hown := X.2.2.2.2.2.1
  have hts := X.2.2.2.2.2.2.1
  intro x1 x2 x3 x4 M0 H locs ls hm hP hS hl
  rw [fX9_mth_55_s] at hm
  refine lv_iload hx hb dX9_mth_55 (lv_at hl 4 rfl) ?_
  refine lv_iload_n hx hb dX9_mth_57 rfl (lv_at hl 1 rfl) ?_
  refine lv_icmp_lt (tgt := 80) hx hb dX9_mth_58 (by decide) (fun c1 => ?_) (fun c1 => ?_)
  · have hm := xift c1 hm
    exact kX9_mth_80 X V k4 hk4 x1 x2 x3 M0 _ _ _ hm hP hS (lv_sub hl [0, 1, 2, 3] rfl)
  · have hm := xiff c1 hm
    refine lv_aload_n hx hb dX9_mth_61 rfl (lv_at hl 0 rfl) ?_
    refine xget xcX9 X hP 37 13 xy37 (by decide) xf_X9_41 rfl dX9_mth_62 ?_
    refine lv_iload_n hx hb dX9_mth_65 rfl (lv_at hl 3 rfl) ?_
    obtain ⟨hi2, hm⟩ := xifn hm
    refine xiald X hP 48 xy48 hi2 dX9_mth_66 ?_
    refine lv_iload_n hx hb dX9_mth_67 rfl (lv_at hl 2 rfl) ?_
    refine lv_icmp_le (tgt := 80) hx hb dX9_mth_68 (by decide) (fun c3 => ?_) (fun c3 => ?_)
    · have hm := xift c3 hm
      exact kX9_mth_80 X V k4 hk4 x1 x2 x3 M0 _ _ _ hm hP hS (lv_sub hl [0, 1, 2, 3] rfl)
    · have hm := xiff c3 hm
      refine lv_aload_n hx hb dX9_mth_71 rfl (lv_at hl 0 rfl) ?_
      refine xget xcX9 X hP 37 13 xy37 (by decide) xf_X9_41 rfl dX9_mth_72 ?_
      refine lv_iload_n hx hb dX9_mth_75 rfl (lv_at hl 3 rfl) ?_
      obtain ⟨hi4, hm⟩ := xifn hm
      refine xiald X hP 48 xy48 hi4 dX9_mth_76 ?_
      refine lv_goto (tgt := 81) hx hb dX9_mth_77 (by decide) ?_
      exact kX9_mth_81 X V k4 hk4 x1 x3 (M0 48 x3.toNatClampNeg) M0 _ _ _ hm hP hS (lv_sub hl [0, 1, 3] rfl)
def fX9_mth_46 (k4 : Int32 → Int32 → Int32 → xM → Option (Int32)) (k16 : Int32 → Int32 → Int32 → Int32 → Int32 → xM → Option (Int32)) (x1 : Int32) (x2 : Int32) (x3 : Int32) (x5 : Int32) (s0 : Int32) (s1 : Int32) (M0 : xM) : Option (Int32) := k16 x1 x2 x3 (s0 + s1) (x5 + 1) M0
theorem fX9_mth_46_s (k4 : Int32 → Int32 → Int32 → xM → Option (Int32)) (k16 : Int32 → Int32 → Int32 → Int32 → Int32 → xM → Option (Int32)) (x1 : Int32) (x2 : Int32) (x3 : Int32) (x5 : Int32) (s0 : Int32) (s1 : Int32) (M0 : xM) : fX9_mth_46 k4 k16 x1 x2 x3 x5 s0 s1 M0 = (k16 x1 x2 x3 (s0 + s1) (x5 + 1) M0) := rfl
set_option maxHeartbeats 4000000 in
set_option maxRecDepth 100000 in
theorem kX9_mth_46 {p : Program} {l : Launch} {e : Env} {s : State} {m : MethodId} {args : Array Value} {below : List Frame} {meth : Method} {c : Code} {w : xT} (X : xX p s m args meth c cX9_mth 6 (some .int) RX9 w) (V : Int32) (k4 : Int32 → Int32 → Int32 → xM → Option (Int32)) (hk4 : ∀ (x1 : Int32) (x2 : Int32) (x3 : Int32) (M : xM) (H : Heap) (locs : List Loc) (ls : Array Slot), k4 x1 x2 x3 M = some V → xP w M H → xS w s H locs → lv_has ls 6 [(0, .ref (xa w 37)), (1, .int x1), (2, .int x2), (3, .int x3)] → W p l e { frames := 0, cells := 0, slots := 0, locals := 0 } s m args below meth c H locs 0 0 (xQ w (some (.int V)) M below args s) (F0 m 4 ls [])) (k16 : Int32 → Int32 → Int32 → Int32 → Int32 → xM → Option (Int32)) (hk16 : ∀ (x1 : Int32) (x2 : Int32) (x3 : Int32) (x4 : Int32) (x5 : Int32) (M : xM) (H : Heap) (locs : List Loc) (ls : Array Slot), k16 x1 x2 x3 x4 x5 M = some V → xP w M H → xS w s H locs → lv_has ls 6 [(0, .ref (xa w 37)), (1, .int x1), (2, .int x2), (3, .int x3), (4, .int x4), (5, .int x5)] → W p l e { frames := 0, cells := 0, slots := 0, locals := 0 } s m args below meth c H locs 0 0 (xQ w (some (.int V)) M below args s) (F0 m 16 ls [])) : ∀ (x1 : Int32) (x2 : Int32) (x3 : Int32) (x5 : Int32) (s0 : Int32) (s1 : Int32) (M0 : xM) (H : Heap) (locs : List Loc) (ls : Array Slot), fX9_mth_46 k4 k16 x1 x2 x3 x5 s0 s1 M0 = some V → xP w M0 H → xS w s H locs → lv_has ls 6 [(0, .ref (xa w 37)), (1, .int x1), (2, .int x2), (3, .int x3), (5, .int x5)] → W p l e { frames := 0, cells := 0, slots := 0, locals := 0 } s m args below meth c H locs 0 0 (xQ w (some (.int V)) M0 below args s) (F0 m 46 ls [.int s1, .int s0]) := by
  have hx := X.1
  have hb := X.2.1
  have hown := X.2.2.2.2.2.1
  have hts := X.2.2.2.2.2.2.1
  intro x1 x2 x3 x5 s0 s1 M0 H locs ls hm hP hS hl
  rw [fX9_mth_46_s] at hm
  refine lv_iadd hx hb dX9_mth_46 ?_
  refine lv_istore (lv' := [(4, .int (s0 + s1)), (0, .ref (xa w 37)), (1, .int x1), (2, .int x2), (3, .int x3), (5, .int x5)]) hx hb dX9_mth_47 hl (by decide) rfl (fun ls hl => ?_)
  refine lv_iinc (v := x5 + 1) (lv' := [(5, .int (x5 + 1)), (4, .int (s0 + s1)), (0, .ref (xa w 37)), (1, .int x1), (2, .int x2), (3, .int x3)]) hx hb dX9_mth_49 hl (k := 5) rfl rfl (by decide) rfl (fun ls hl => ?_)
  refine lv_goto (tgt := 16) hx hb dX9_mth_52 (by decide) ?_
  exact hk16 x1 x2 x3 (s0 + s1) (x5 + 1) M0 _ _ _ hm hP hS (lv_sub hl [2, 3, 4, 5, 1, 0] rfl)
def fX9_mth_16 (k4 : Int32 → Int32 → Int32 → xM → Option (Int32)) : Nat → Int32 → Int32 → Int32 → Int32 → Int32 → xM → Option (Int32)
  | 0 => fun _ _ _ _ _ _ => none
  | n + 1 => fun x1 x2 x3 x4 x5 M0 => if 8 ≤ x5 then (fX9_mth_55 k4 x1 x2 x3 x4 M0) else (if xin x5 8 then if xin x3 8 then if (M0 48 x5.toNatClampNeg) < (M0 48 x3.toNatClampNeg) then (fX9_mth_46 k4 (fX9_mth_16 k4 n) x1 x2 x3 x5 x4 0 M0) else (fX9_mth_46 k4 (fX9_mth_16 k4 n) x1 x2 x3 x5 x4 1 M0) else none else none)
theorem fX9_mth_16_s (k4 : Int32 → Int32 → Int32 → xM → Option (Int32)) (n : Nat) (x1 : Int32) (x2 : Int32) (x3 : Int32) (x4 : Int32) (x5 : Int32) (M0 : xM) : fX9_mth_16 k4 (n + 1) x1 x2 x3 x4 x5 M0 = (if 8 ≤ x5 then (fX9_mth_55 k4 x1 x2 x3 x4 M0) else (if xin x5 8 then if xin x3 8 then if (M0 48 x5.toNatClampNeg) < (M0 48 x3.toNatClampNeg) then (fX9_mth_46 k4 (fX9_mth_16 k4 n) x1 x2 x3 x5 x4 0 M0) else (fX9_mth_46 k4 (fX9_mth_16 k4 n) x1 x2 x3 x5 x4 1 M0) else none else none)) := rfl
set_option maxHeartbeats 4000000 in
set_option maxRecDepth 100000 in
theorem kX9_mth_16 {p : Program} {l : Launch} {e : Env} {s : State} {m : MethodId} {args : Array Value} {below : List Frame} {meth : Method} {c : Code} {w : xT} (X : xX p s m args meth c cX9_mth 6 (some .int) RX9 w) (V : Int32) (k4 : Int32 → Int32 → Int32 → xM → Option (Int32)) (hk4 : ∀ (x1 : Int32) (x2 : Int32) (x3 : Int32) (M : xM) (H : Heap) (locs : List Loc) (ls : Array Slot), k4 x1 x2 x3 M = some V → xP w M H → xS w s H locs → lv_has ls 6 [(0, .ref (xa w 37)), (1, .int x1), (2, .int x2), (3, .int x3)] → W p l e { frames := 0, cells := 0, slots := 0, locals := 0 } s m args below meth c H locs 0 0 (xQ w (some (.int V)) M below args s) (F0 m 4 ls [])) : ∀ (n : Nat) (x1 : Int32) (x2 : Int32) (x3 : Int32) (x4 : Int32) (x5 : Int32) (M0 : xM) (H : Heap) (locs : List Loc) (ls : Array Slot), fX9_mth_16 k4 n x1 x2 x3 x4 x5 M0 = some V → xP w M0 H → xS w s H locs → lv_has ls 6 [(0, .ref (xa w 37)), (1, .int x1), (2, .int x2), (3, .int x3), (4, .int x4), (5, .int x5)] → W p l e { frames := 0, cells := 0, slots := 0, locals := 0 } s m args below meth c H locs 0 0 (xQ w (some (.int V)) M0 below args s) (F0 m 16 ls []) := by
  have hx := X.1
  have hb := X.2.1
  have hown := X.2.2.2.2.2.1
  have hts := X.2.2.2.2.2.2.1
  intro n
  induction n with
  | zero => intro x1 x2 x3 x4 x5 M0 H locs ls hm hP hS hl; exact xnon hm
  | succ n ih =>
    intro x1 x2 x3 x4 x5 M0 H locs ls hm hP hS hl
    rw [fX9_mth_16_s] at hm
    refine lv_iload hx hb dX9_mth_16 (lv_at hl 5 rfl) ?_
    refine lv_bipush (v := 8) hx hb dX9_mth_18 (by decide) ?_
    refine lv_icmp_ge (tgt := 55) hx hb dX9_mth_20 (by decide) (fun c5 => ?_) (fun c5 => ?_)
    · have hm := xift c5 hm
      exact kX9_mth_55 X V k4 hk4 x1 x2 x3 x4 M0 _ _ _ hm hP hS (lv_sub hl [0, 1, 2, 3, 4] rfl)
    · have hm := xiff c5 hm
      refine lv_iload hx hb dX9_mth_23 (lv_at hl 4 rfl) ?_
      refine lv_aload_n hx hb dX9_mth_25 rfl (lv_at hl 0 rfl) ?_
      refine xget xcX9 X hP 37 13 xy37 (by decide) xf_X9_41 rfl dX9_mth_26 ?_
      refine lv_iload hx hb dX9_mth_29 (lv_at hl 5 rfl) ?_
      obtain ⟨hi6, hm⟩ := xifn hm
      refine xiald X hP 48 xy48 hi6 dX9_mth_31 ?_
      refine lv_aload_n hx hb dX9_mth_32 rfl (lv_at hl 0 rfl) ?_
      refine xget xcX9 X hP 37 13 xy37 (by decide) xf_X9_41 rfl dX9_mth_33 ?_
      refine lv_iload_n hx hb dX9_mth_36 rfl (lv_at hl 3 rfl) ?_
      obtain ⟨hi7, hm⟩ := xifn hm
      refine xiald X hP 48 xy48 hi7 dX9_mth_37 ?_
      refine lv_icmp_lt (tgt := 45) hx hb dX9_mth_38 (by decide) (fun c8 => ?_) (fun c8 => ?_)
      · have hm := xift c8 hm
        refine lv_iconst (v := 0) hx hb dX9_mth_45 (by decide) ?_
        exact kX9_mth_46 X V k4 hk4 (fX9_mth_16 k4 n) ih x1 x2 x3 x5 x4 0 M0 _ _ _ hm hP hS (lv_sub hl [0, 1, 2, 3, 5] rfl)
      · have hm := xiff c8 hm
        refine lv_iconst (v := 1) hx hb dX9_mth_41 (by decide) ?_
        refine lv_goto (tgt := 46) hx hb dX9_mth_42 (by decide) ?_
        exact kX9_mth_46 X V k4 hk4 (fX9_mth_16 k4 n) ih x1 x2 x3 x5 x4 1 M0 _ _ _ hm hP hS (lv_sub hl [0, 1, 2, 3, 5] rfl)
def fX9_mth_4  : Nat → Int32 → Int32 → Int32 → xM → Option (Int32)
  | 0 => fun _ _ _ _ => none
  | n + 1 => fun x1 x2 x3 M0 => if 8 ≤ x3 then (some x2) else (fX9_mth_16 (fX9_mth_4 n) 4096 x1 x2 x3 0 0 M0)
theorem fX9_mth_4_s  (n : Nat) (x1 : Int32) (x2 : Int32) (x3 : Int32) (M0 : xM) : fX9_mth_4  (n + 1) x1 x2 x3 M0 = (if 8 ≤ x3 then (some x2) else (fX9_mth_16 (fX9_mth_4 n) 4096 x1 x2 x3 0 0 M0)) := rfl
set_option maxHeartbeats 4000000 in
set_option maxRecDepth 100000 in
theorem kX9_mth_4 {p : Program} {l : Launch} {e : Env} {s : State} {m : MethodId} {args : Array Value} {below : List Frame} {meth : Method} {c : Code} {w : xT} (X : xX p s m args meth c cX9_mth 6 (some .int) RX9 w) (V : Int32)  : ∀ (n : Nat) (x1 : Int32) (x2 : Int32) (x3 : Int32) (M0 : xM) (H : Heap) (locs : List Loc) (ls : Array Slot), fX9_mth_4  n x1 x2 x3 M0 = some V → xP w M0 H → xS w s H locs → lv_has ls 6 [(0, .ref (xa w 37)), (1, .int x1), (2, .int x2), (3, .int x3)] → W p l e { frames := 0, cells := 0, slots := 0, locals := 0 } s m args below meth c H locs 0 0 (xQ w (some (.int V)) M0 below args s) (F0 m 4 ls []) := by
  have hx := X.1
  have hb := X.2.1
  have hown := X.2.2.2.2.2.1
  have hts := X.2.2.2.2.2.2.1
  intro n
  induction n with
  | zero => intro x1 x2 x3 M0 H locs ls hm hP hS hl; exact xnon hm
  | succ n ih =>
    intro x1 x2 x3 M0 H locs ls hm hP hS hl
    rw [fX9_mth_4_s] at hm
    refine lv_iload_n hx hb dX9_mth_4 rfl (lv_at hl 3 rfl) ?_
    refine lv_bipush (v := 8) hx hb dX9_mth_5 (by decide) ?_
    refine lv_icmp_ge (tgt := 88) hx hb dX9_mth_7 (by decide) (fun c9 => ?_) (fun c9 => ?_)
    · have hm := xift c9 hm
      refine lv_iload_n hx hb dX9_mth_88 rfl (lv_at hl 2 rfl) ?_
      obtain rfl := Option.some.inj hm
      exact xiret X hP hS dX9_mth_89
    · have hm := xiff c9 hm
      refine lv_iconst (v := 0) hx hb dX9_mth_10 (by decide) ?_
      refine lv_istore (lv' := [(4, .int 0), (0, .ref (xa w 37)), (1, .int x1), (2, .int x2), (3, .int x3)]) hx hb dX9_mth_11 hl (by decide) rfl (fun ls hl => ?_)
      refine lv_iconst (v := 0) hx hb dX9_mth_13 (by decide) ?_
      refine lv_istore (lv' := [(5, .int 0), (4, .int 0), (0, .ref (xa w 37)), (1, .int x1), (2, .int x2), (3, .int x3)]) hx hb dX9_mth_14 hl (by decide) rfl (fun ls hl => ?_)
      exact kX9_mth_16 X V (fX9_mth_4 n) ih 4096 x1 x2 x3 0 0 M0 _ _ _ hm hP hS (lv_sub hl [2, 3, 4, 5, 1, 0] rfl)
def fX9_mth (x1 : Int32) (M0 : xM) : Option (Int32) := fX9_mth_4 4096 x1 0 0 M0
theorem fX9_mth_s (x1 : Int32) (M0 : xM) : fX9_mth x1 M0 = (fX9_mth_4 4096 x1 0 0 M0) := rfl
set_option maxHeartbeats 4000000 in
set_option maxRecDepth 100000 in
theorem qX9_mth (l : Launch) (w : xT) (x1 : Int32) (M0 : xM) (V : Int32) (hm : fX9_mth x1 M0 = some V) : xC l yX9_mth (Cond.code yX9_mth cX9_mth 6 (some .int)) { frames := 0, cells := 0, slots := 0, locals := 0 } w [.ref (xa w 37), .int x1] M0 (some (.int V)) M0 := by
  refine xC.of (by decide) (Nat.le_of_ble_eq_true rfl) ?_
  intro p e s m args below meth c ls X hP hS hl
  have hl : lv_has ls 6 [(0, .ref (xa w 37)), (1, .int x1)] := hl
  have X : xX p s m args meth c cX9_mth 6 (some .int) RX9 w := X
  have hx := X.1
  have hb := X.2.1
  have hown := X.2.2.2.2.2.1
  have hts := X.2.2.2.2.2.2.1
  rw [fX9_mth_s] at hm
  refine lv_iconst (v := 0) hx hb dX9_mth_0 (by decide) ?_
  refine lv_istore_n (lv' := [(2, .int 0), (0, .ref (xa w 37)), (1, .int x1)]) hx hb dX9_mth_1 rfl hl (by decide) rfl (fun ls hl => ?_)
  refine lv_iconst (v := 0) hx hb dX9_mth_2 (by decide) ?_
  refine lv_istore_n (lv' := [(3, .int 0), (2, .int 0), (0, .ref (xa w 37)), (1, .int x1)]) hx hb dX9_mth_3 rfl hl (by decide) rfl (fun ls hl => ?_)
  exact kX9_mth_4 X V  4096 x1 0 0 M0 _ _ _ hm hP hS (lv_sub hl [2, 3, 1, 0] rfl)
