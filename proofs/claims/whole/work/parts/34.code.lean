def fX9_shared_168  (x2 : Int32) (x3 : Int32) (x4 : Int32) (M : xM) : Option (Int32 × xM) := (fX9_tellStretch x4 x3 x2 M).bind fun v1 => some (v1, M)
theorem fX9_shared_168_s  (x2 : Int32) (x3 : Int32) (x4 : Int32) (M : xM) : fX9_shared_168  x2 x3 x4 M = ((fX9_tellStretch x4 x3 x2 M).bind fun v1 => some (v1, M)) := rfl
set_option maxHeartbeats 4000000 in
set_option maxRecDepth 100000 in
theorem kX9_shared_168 {p : Program} {l : Launch} {e : Env} {s : State} {m : MethodId} {args : Array Value} {below : List Frame} {meth : Method} {c : Code} {w : xT} (X : xX p s m args meth c cX9_shared 8 (some .int) RX9 w) (V : Int32 × xM)  : ∀ (x2 : Int32) (x3 : Int32) (x4 : Int32) (M : xM) (H : Heap) (locs : List Loc) (ls : Array Slot), fX9_shared_168  x2 x3 x4 M = some V → xP w M H → xS w s H locs → lv_has ls 8 [(0, .ref (xa w 37)), (2, .int x2), (3, .int x3), (4, .int x4)] → W p l e { frames := 2, cells := 0, slots := 0, locals := 50 } s m args below meth c H locs 0 0 (xQ w (some (.int V.1)) V.2 below args s) (F0 m 168 ls []) := by
  have hx := X.1
  have hb := X.2.1
  have hown := X.2.2.2.2.2.1
  have hts := X.2.2.2.2.2.2.1
  intro x2 x3 x4 M H locs ls hm hP hS hl
  rw [fX9_shared_168_s] at hm
  refine lv_aload_n hx hb dX9_shared_168 rfl (lv_at hl 0 rfl) ?_
  refine lv_iload hx hb dX9_shared_169 (lv_at hl 3 rfl) ?_
  refine lv_iload_n hx hb dX9_shared_171 rfl (lv_at hl 2 rfl) ?_
  refine lv_iload_n hx hb dX9_shared_172 rfl (lv_at hl 1 rfl) ?_
  obtain ⟨v1, hg, hm⟩ := xbnd hm
  refine xcallV xm_X9_97 xt_X9_tellStretch X hP hS (qX9_tellStretch l w x4 x3 x2 M v1 hg) xy37 rfl ⟨Nat.le_of_ble_eq_true rfl, Nat.le_of_ble_eq_true rfl⟩ ⟨rfl, rfl⟩ hl.1 rfl (rest := []) rfl (Nat.le_of_ble_eq_true rfl) dX9_shared_173 ⟨Nat.zero_le _, Nat.zero_le _⟩ (fun H locs hP hS => ?_)
  refine W.eq (g2 := F0 m 176 ls [.int v1]) rfl ?_
  obtain rfl := Option.some.inj hm
  exact xiret X hP hS dX9_shared_176
def fX9_shared_162 (k30 : Int32 → Int32 → Int32 → Int32 → Int32 → xM → Option (Int32 × xM)) (x1 : Int32) (x2 : Int32) (x3 : Int32) (x4 : Int32) (x5 : Int32) (M : xM) : Option (Int32 × xM) := k30 x1 x2 x3 x4 (x5 + 1) M
theorem fX9_shared_162_s (k30 : Int32 → Int32 → Int32 → Int32 → Int32 → xM → Option (Int32 × xM)) (x1 : Int32) (x2 : Int32) (x3 : Int32) (x4 : Int32) (x5 : Int32) (M : xM) : fX9_shared_162 k30 x1 x2 x3 x4 x5 M = (k30 x1 x2 x3 x4 (x5 + 1) M) := rfl
set_option maxHeartbeats 4000000 in
set_option maxRecDepth 100000 in
theorem kX9_shared_162 {p : Program} {l : Launch} {e : Env} {s : State} {m : MethodId} {args : Array Value} {below : List Frame} {meth : Method} {c : Code} {w : xT} (X : xX p s m args meth c cX9_shared 8 (some .int) RX9 w) (V : Int32 × xM) (k30 : Int32 → Int32 → Int32 → Int32 → Int32 → xM → Option (Int32 × xM)) (hk30 : ∀ (x1 : Int32) (x2 : Int32) (x3 : Int32) (x4 : Int32) (x5 : Int32) (M : xM) (H : Heap) (locs : List Loc) (ls : Array Slot), k30 x1 x2 x3 x4 x5 M = some V → xP w M H → xS w s H locs → lv_has ls 8 [(0, .ref (xa w 37)), (1, .int x1), (2, .int x2), (3, .int x3), (4, .int x4), (5, .int x5)] → W p l e { frames := 2, cells := 0, slots := 0, locals := 50 } s m args below meth c H locs 0 0 (xQ w (some (.int V.1)) V.2 below args s) (F0 m 30 ls [])) : ∀ (x1 : Int32) (x2 : Int32) (x3 : Int32) (x4 : Int32) (x5 : Int32) (M : xM) (H : Heap) (locs : List Loc) (ls : Array Slot), fX9_shared_162 k30 x1 x2 x3 x4 x5 M = some V → xP w M H → xS w s H locs → lv_has ls 8 [(0, .ref (xa w 37)), (1, .int x1), (2, .int x2), (3, .int x3), (4, .int x4), (5, .int x5)] → W p l e { frames := 2, cells := 0, slots := 0, locals := 50 } s m args below meth c H locs 0 0 (xQ w (some (.int V.1)) V.2 below args s) (F0 m 162 ls []) := by
  have hx := X.1
  have hb := X.2.1
  have hown := X.2.2.2.2.2.1
  have hts := X.2.2.2.2.2.2.1
  intro x1 x2 x3 x4 x5 M H locs ls hm hP hS hl
  rw [fX9_shared_162_s] at hm
  refine lv_iinc (v := x5 + 1) (lv' := [(5, .int (x5 + 1)), (0, .ref (xa w 37)), (1, .int x1), (2, .int x2), (3, .int x3), (4, .int x4)]) hx hb dX9_shared_162 hl (k := 5) rfl rfl (by decide) rfl (fun ls hl => ?_)
  refine lv_goto (tgt := 30) hx hb dX9_shared_165 (by decide) ?_
  exact hk30 x1 x2 x3 x4 (x5 + 1) M _ _ _ hm hP hS (lv_sub hl [1, 2, 3, 4, 5, 0] rfl)
def fX9_shared_142 (k30 : Int32 → Int32 → Int32 → Int32 → Int32 → xM → Option (Int32 × xM)) (x1 : Int32) (x2 : Int32) (x3 : Int32) (x4 : Int32) (x5 : Int32) (M : xM) : Option (Int32 × xM) := (fX9_mth x1 M).bind fun v2 => if v2 ≤ x3 then (fX9_shared_162 k30 x1 x2 x3 x4 x5 M) else (fX9_shared_162 k30 x1 x2 v2 x5 x5 M)
theorem fX9_shared_142_s (k30 : Int32 → Int32 → Int32 → Int32 → Int32 → xM → Option (Int32 × xM)) (x1 : Int32) (x2 : Int32) (x3 : Int32) (x4 : Int32) (x5 : Int32) (M : xM) : fX9_shared_142 k30 x1 x2 x3 x4 x5 M = ((fX9_mth x1 M).bind fun v2 => if v2 ≤ x3 then (fX9_shared_162 k30 x1 x2 x3 x4 x5 M) else (fX9_shared_162 k30 x1 x2 v2 x5 x5 M)) := rfl
set_option maxHeartbeats 4000000 in
set_option maxRecDepth 100000 in
theorem kX9_shared_142 {p : Program} {l : Launch} {e : Env} {s : State} {m : MethodId} {args : Array Value} {below : List Frame} {meth : Method} {c : Code} {w : xT} (X : xX p s m args meth c cX9_shared 8 (some .int) RX9 w) (V : Int32 × xM) (k30 : Int32 → Int32 → Int32 → Int32 → Int32 → xM → Option (Int32 × xM)) (hk30 : ∀ (x1 : Int32) (x2 : Int32) (x3 : Int32) (x4 : Int32) (x5 : Int32) (M : xM) (H : Heap) (locs : List Loc) (ls : Array Slot), k30 x1 x2 x3 x4 x5 M = some V → xP w M H → xS w s H locs → lv_has ls 8 [(0, .ref (xa w 37)), (1, .int x1), (2, .int x2), (3, .int x3), (4, .int x4), (5, .int x5)] → W p l e { frames := 2, cells := 0, slots := 0, locals := 50 } s m args below meth c H locs 0 0 (xQ w (some (.int V.1)) V.2 below args s) (F0 m 30 ls [])) : ∀ (x1 : Int32) (x2 : Int32) (x3 : Int32) (x4 : Int32) (x5 : Int32) (M : xM) (H : Heap) (locs : List Loc) (ls : Array Slot), fX9_shared_142 k30 x1 x2 x3 x4 x5 M = some V → xP w M H → xS w s H locs → lv_has ls 8 [(0, .ref (xa w 37)), (1, .int x1), (2, .int x2), (3, .int x3), (4, .int x4), (5, .int x5)] → W p l e { frames := 2, cells := 0, slots := 0, locals := 50 } s m args below meth c H locs 0 0 (xQ w (some (.int V.1)) V.2 below args s) (F0 m 142 ls []) := by
  have hx := X.1
  have hb := X.2.1
  have hown := X.2.2.2.2.2.1
  have hts := X.2.2.2.2.2.2.1
  intro x1 x2 x3 x4 x5 M H locs ls hm hP hS hl
  rw [fX9_shared_142_s] at hm
  refine lv_aload_n hx hb dX9_shared_142 rfl (lv_at hl 0 rfl) ?_
  refine lv_iload_n hx hb dX9_shared_143 rfl (lv_at hl 1 rfl) ?_
  obtain ⟨v2, hg, hm⟩ := xbnd hm
  refine xcallV xm_X9_101 xt_X9_mth X hP hS (qX9_mth l w x1 M v2 hg) xy37 rfl ⟨Nat.le_of_ble_eq_true rfl, Nat.le_of_ble_eq_true rfl⟩ ⟨rfl, rfl⟩ hl.1 rfl (rest := []) rfl (Nat.le_of_ble_eq_true rfl) dX9_shared_144 ⟨Nat.zero_le _, Nat.zero_le _⟩ (fun H locs hP hS => ?_)
  refine W.eq (g2 := F0 m 147 ls [.int v2]) rfl ?_
  refine lv_istore (lv' := [(6, .int v2), (0, .ref (xa w 37)), (1, .int x1), (2, .int x2), (3, .int x3), (4, .int x4), (5, .int x5)]) hx hb dX9_shared_147 hl (by decide) rfl (fun ls hl => ?_)
  refine lv_iload hx hb dX9_shared_149 (lv_at hl 0 rfl) ?_
  refine lv_iload_n hx hb dX9_shared_151 rfl (lv_at hl 4 rfl) ?_
  refine lv_icmp_le (tgt := 162) hx hb dX9_shared_152 (by decide) (fun c3 => ?_) (fun c3 => ?_)
  · have hm := xift c3 hm
    exact kX9_shared_162 X V k30 hk30 x1 x2 x3 x4 x5 M _ _ _ hm hP hS (lv_sub hl [1, 2, 3, 4, 5, 6] rfl)
  · have hm := xiff c3 hm
    refine lv_iload hx hb dX9_shared_155 (lv_at hl 0 rfl) ?_
    refine lv_istore_n (lv' := [(3, .int v2), (6, .int v2), (0, .ref (xa w 37)), (1, .int x1), (2, .int x2), (4, .int x4), (5, .int x5)]) hx hb dX9_shared_157 rfl hl (by decide) rfl (fun ls hl => ?_)
    refine lv_iload hx hb dX9_shared_158 (lv_at hl 6 rfl) ?_
    refine lv_istore (lv' := [(4, .int x5), (3, .int v2), (6, .int v2), (0, .ref (xa w 37)), (1, .int x1), (2, .int x2), (5, .int x5)]) hx hb dX9_shared_160 hl (by decide) rfl (fun ls hl => ?_)
    exact kX9_shared_162 X V k30 hk30 x1 x2 v2 x5 x5 M _ _ _ hm hP hS (lv_sub hl [3, 4, 5, 1, 0, 6] rfl)
def fX9_shared_135 (k30 : Int32 → Int32 → Int32 → Int32 → Int32 → xM → Option (Int32 × xM)) (k66 : Int32 → Int32 → Int32 → Int32 → Int32 → Int32 → xM → Option (Int32 × xM)) (x1 : Int32) (x2 : Int32) (x3 : Int32) (x4 : Int32) (x5 : Int32) (x6 : Int32) (s1 : Int32) (s2 : Int32) (M : xM) : Option (Int32 × xM) := if xin s1 8 then xlt (xs1 M 48 s1.toNatClampNeg s2) fun M5 => k66 x1 x2 x3 x4 x5 (x6 + 1) M5 else none
theorem fX9_shared_135_s (k30 : Int32 → Int32 → Int32 → Int32 → Int32 → xM → Option (Int32 × xM)) (k66 : Int32 → Int32 → Int32 → Int32 → Int32 → Int32 → xM → Option (Int32 × xM)) (x1 : Int32) (x2 : Int32) (x3 : Int32) (x4 : Int32) (x5 : Int32) (x6 : Int32) (s1 : Int32) (s2 : Int32) (M : xM) : fX9_shared_135 k30 k66 x1 x2 x3 x4 x5 x6 s1 s2 M = (if xin s1 8 then xlt (xs1 M 48 s1.toNatClampNeg s2) fun M5 => k66 x1 x2 x3 x4 x5 (x6 + 1) M5 else none) := rfl
set_option maxHeartbeats 4000000 in
set_option maxRecDepth 100000 in
theorem kX9_shared_135 {p : Program} {l : Launch} {e : Env} {s : State} {m : MethodId} {args : Array Value} {below : List Frame} {meth : Method} {c : Code} {w : xT} (X : xX p s m args meth c cX9_shared 8 (some .int) RX9 w) (V : Int32 × xM) (k30 : Int32 → Int32 → Int32 → Int32 → Int32 → xM → Option (Int32 × xM)) (hk30 : ∀ (x1 : Int32) (x2 : Int32) (x3 : Int32) (x4 : Int32) (x5 : Int32) (M : xM) (H : Heap) (locs : List Loc) (ls : Array Slot), k30 x1 x2 x3 x4 x5 M = some V → xP w M H → xS w s H locs → lv_has ls 8 [(0, .ref (xa w 37)), (1, .int x1), (2, .int x2), (3, .int x3), (4, .int x4), (5, .int x5)] → W p l e { frames := 2, cells := 0, slots := 0, locals := 50 } s m args below meth c H locs 0 0 (xQ w (some (.int V.1)) V.2 below args s) (F0 m 30 ls [])) (k66 : Int32 → Int32 → Int32 → Int32 → Int32 → Int32 → xM → Option (Int32 × xM)) (hk66 : ∀ (x1 : Int32) (x2 : Int32) (x3 : Int32) (x4 : Int32) (x5 : Int32) (x6 : Int32) (M : xM) (H : Heap) (locs : List Loc) (ls : Array Slot), k66 x1 x2 x3 x4 x5 x6 M = some V → xP w M H → xS w s H locs → lv_has ls 8 [(0, .ref (xa w 37)), (1, .int x1), (2, .int x2), (3, .int x3), (4, .int x4), (5, .int x5), (6, .int x6)] → W p l e { frames := 2, cells := 0, slots := 0, locals := 50 } s m args below meth c H locs 0 0 (xQ w (some (.int V.1)) V.2 below args s) (F0 m 66 ls [])) : ∀ (x1 : Int32) (x2 : Int32) (x3 : Int32) (x4 : Int32) (x5 : Int32) (x6 : Int32) (s1 : Int32) (s2 : Int32) (M : xM) (H : Heap) (locs : List Loc) (ls : Array Slot), fX9_shared_135 k30 k66 x1 x2 x3 x4 x5 x6 s1 s2 M = some V → xP w M H → xS w s H locs → lv_has ls 8 [(0, .ref (xa w 37)), (1, .int x1), (2, .int x2), (3, .int x3), (4, .int x4), (5, .int x5), (6, .int x6)] → W p l e { frames := 2, cells := 0, slots := 0, locals := 50 } s m args below meth c H locs 0 0 (xQ w (some (.int V.1)) V.2 below args s) (F0 m 135 ls [.int s2, .int s1, .ref (xa w 48)]) := by
  have hx := X.1
  have hb := X.2.1
  have hown := X.2.2.2.2.2.1
  have hts := X.2.2.2.2.2.2.1
  intro x1 x2 x3 x4 x5 x6 s1 s2 M H locs ls hm hP hS hl
  rw [fX9_shared_135_s] at hm
  obtain ⟨hi4, hm⟩ := xifn hm
  refine xiast X hP hS 48 xy48 hi4 dX9_shared_135 (fun M5 H locs eM5 hP hS => ?_)
  have hm := xltE hm eM5
  refine lv_iinc (v := x6 + 1) (lv' := [(6, .int (x6 + 1)), (0, .ref (xa w 37)), (1, .int x1), (2, .int x2), (3, .int x3), (4, .int x4), (5, .int x5)]) hx hb dX9_shared_136 hl (k := 6) rfl rfl (by decide) rfl (fun ls hl => ?_)
  refine lv_goto (tgt := 66) hx hb dX9_shared_139 (by decide) ?_
  exact hk66 x1 x2 x3 x4 x5 (x6 + 1) M5 _ _ _ hm hP hS (lv_sub hl [1, 2, 3, 4, 5, 6, 0] rfl)
def fX9_shared_66 (k30 : Int32 → Int32 → Int32 → Int32 → Int32 → xM → Option (Int32 × xM)) : Nat → Int32 → Int32 → Int32 → Int32 → Int32 → Int32 → xM → Option (Int32 × xM)
  | 0 => fun _ _ _ _ _ _ _ => none
  | n + 1 => fun x1 x2 x3 x4 x5 x6 M => if (M 37 6) ≤ x6 then (fX9_shared_142 k30 x1 x2 x3 x4 x5 M) else (if xin x5 408 then (fX9_common0 (M 44 x5.toNatClampNeg) x6 M).bind fun v8 => if xin x6 408 then if xin x6 408 then if xin (M 41 x6.toNatClampNeg) 8 then if v8 ≤ (M 48 (M 41 x6.toNatClampNeg).toNatClampNeg) then (if xin x6 408 then if xin (M 41 x6.toNatClampNeg) 8 then fX9_shared_135 k30 (fX9_shared_66 k30 n) x1 x2 x3 x4 x5 x6 (M 41 x6.toNatClampNeg) (M 48 (M 41 x6.toNatClampNeg).toNatClampNeg) M else none else none) else (fX9_shared_135 k30 (fX9_shared_66 k30 n) x1 x2 x3 x4 x5 x6 (M 41 x6.toNatClampNeg) v8 M) else none else none else none else none)
theorem fX9_shared_66_s (k30 : Int32 → Int32 → Int32 → Int32 → Int32 → xM → Option (Int32 × xM)) (n : Nat) (x1 : Int32) (x2 : Int32) (x3 : Int32) (x4 : Int32) (x5 : Int32) (x6 : Int32) (M : xM) : fX9_shared_66 k30 (n + 1) x1 x2 x3 x4 x5 x6 M = (if (M 37 6) ≤ x6 then (fX9_shared_142 k30 x1 x2 x3 x4 x5 M) else (if xin x5 408 then (fX9_common0 (M 44 x5.toNatClampNeg) x6 M).bind fun v8 => if xin x6 408 then if xin x6 408 then if xin (M 41 x6.toNatClampNeg) 8 then if v8 ≤ (M 48 (M 41 x6.toNatClampNeg).toNatClampNeg) then (if xin x6 408 then if xin (M 41 x6.toNatClampNeg) 8 then fX9_shared_135 k30 (fX9_shared_66 k30 n) x1 x2 x3 x4 x5 x6 (M 41 x6.toNatClampNeg) (M 48 (M 41 x6.toNatClampNeg).toNatClampNeg) M else none else none) else (fX9_shared_135 k30 (fX9_shared_66 k30 n) x1 x2 x3 x4 x5 x6 (M 41 x6.toNatClampNeg) v8 M) else none else none else none else none)) := rfl
set_option maxHeartbeats 4000000 in
set_option maxRecDepth 100000 in
theorem kX9_shared_66 {p : Program} {l : Launch} {e : Env} {s : State} {m : MethodId} {args : Array Value} {below : List Frame} {meth : Method} {c : Code} {w : xT} (X : xX p s m args meth c cX9_shared 8 (some .int) RX9 w) (V : Int32 × xM) (k30 : Int32 → Int32 → Int32 → Int32 → Int32 → xM → Option (Int32 × xM)) (hk30 : ∀ (x1 : Int32) (x2 : Int32) (x3 : Int32) (x4 : Int32) (x5 : Int32) (M : xM) (H : Heap) (locs : List Loc) (ls : Array Slot), k30 x1 x2 x3 x4 x5 M = some V → xP w M H → xS w s H locs → lv_has ls 8 [(0, .ref (xa w 37)), (1, .int x1), (2, .int x2), (3, .int x3), (4, .int x4), (5, .int x5)] → W p l e { frames := 2, cells := 0, slots := 0, locals := 50 } s m args below meth c H locs 0 0 (xQ w (some (.int V.1)) V.2 below args s) (F0 m 30 ls [])) : ∀ (n : Nat) (x1 : Int32) (x2 : Int32) (x3 : Int32) (x4 : Int32) (x5 : Int32) (x6 : Int32) (M : xM) (H : Heap) (locs : List Loc) (ls : Array Slot), fX9_shared_66 k30 n x1 x2 x3 x4 x5 x6 M = some V → xP w M H → xS w s H locs → lv_has ls 8 [(0, .ref (xa w 37)), (1, .int x1), (2, .int x2), (3, .int x3), (4, .int x4), (5, .int x5), (6, .int x6)] → W p l e { frames := 2, cells := 0, slots := 0, locals := 50 } s m args below meth c H locs 0 0 (xQ w (some (.int V.1)) V.2 below args s) (F0 m 66 ls []) := by
  have hx := X.1
  have hb := X.2.1
  have hown := X.2.2.2.2.2.1
  have hts := X.2.2.2.2.2.2.1
  intro n
  induction n with
  | zero => intro x1 x2 x3 x4 x5 x6 M H locs ls hm hP hS hl; exact xnon hm
  | succ n ih =>
    intro x1 x2 x3 x4 x5 x6 M H locs ls hm hP hS hl
    rw [fX9_shared_66_s] at hm
    refine lv_iload hx hb dX9_shared_66 (lv_at hl 6 rfl) ?_
    refine lv_aload_n hx hb dX9_shared_68 rfl (lv_at hl 0 rfl) ?_
    refine xgeti xcX9 X hP 37 6 xy37 (by decide) xf_X9_48 rfl dX9_shared_69 ?_
    refine lv_icmp_ge (tgt := 142) hx hb dX9_shared_72 (by decide) (fun c6 => ?_) (fun c6 => ?_)
    · have hm := xift c6 hm
      exact kX9_shared_142 X V k30 hk30 x1 x2 x3 x4 x5 M _ _ _ hm hP hS (lv_sub hl [0, 1, 2, 3, 4, 5] rfl)
    · have hm := xiff c6 hm
      refine lv_aload_n hx hb dX9_shared_75 rfl (lv_at hl 0 rfl) ?_
      refine lv_aload_n hx hb dX9_shared_76 rfl (lv_at hl 0 rfl) ?_
      refine xget xcX9 X hP 37 8 xy37 (by decide) xf_X9_29 rfl dX9_shared_77 ?_
      refine lv_iload hx hb dX9_shared_80 (lv_at hl 5 rfl) ?_
      obtain ⟨hi7, hm⟩ := xifn hm
      refine xiald X hP 44 xy44 hi7 dX9_shared_82 ?_
      refine lv_iload hx hb dX9_shared_83 (lv_at hl 6 rfl) ?_
      obtain ⟨v8, hg, hm⟩ := xbnd hm
      refine xcallV xm_X9_70 xt_X9_common0 X hP hS (qX9_common0 l w (M 44 x5.toNatClampNeg) x6 M v8 hg) xy37 rfl ⟨Nat.le_of_ble_eq_true rfl, Nat.le_of_ble_eq_true rfl⟩ ⟨rfl, rfl⟩ hl.1 rfl (rest := []) rfl (Nat.le_of_ble_eq_true rfl) dX9_shared_85 ⟨Nat.zero_le _, Nat.zero_le _⟩ (fun H locs hP hS => ?_)
      refine W.eq (g2 := F0 m 88 ls [.int v8]) rfl ?_
      refine lv_istore (lv' := [(7, .int v8), (0, .ref (xa w 37)), (1, .int x1), (2, .int x2), (3, .int x3), (4, .int x4), (5, .int x5), (6, .int x6)]) hx hb dX9_shared_88 hl (by decide) rfl (fun ls hl => ?_)
      refine lv_aload_n hx hb dX9_shared_90 rfl (lv_at hl 1 rfl) ?_
      refine xget xcX9 X hP 37 13 xy37 (by decide) xf_X9_41 rfl dX9_shared_91 ?_
      refine lv_aload_n hx hb dX9_shared_94 rfl (lv_at hl 1 rfl) ?_
      refine xget xcX9 X hP 37 4 xy37 (by decide) xf_X9_19 rfl dX9_shared_95 ?_
      refine lv_iload hx hb dX9_shared_98 (lv_at hl 7 rfl) ?_
      obtain ⟨hi9, hm⟩ := xifn hm
      refine xiald X hP 41 xy41 hi9 dX9_shared_100 ?_
      refine lv_iload hx hb dX9_shared_101 (lv_at hl 0 rfl) ?_
      refine lv_aload_n hx hb dX9_shared_103 rfl (lv_at hl 1 rfl) ?_
      refine xget xcX9 X hP 37 13 xy37 (by decide) xf_X9_41 rfl dX9_shared_104 ?_
      refine lv_aload_n hx hb dX9_shared_107 rfl (lv_at hl 1 rfl) ?_
      refine xget xcX9 X hP 37 4 xy37 (by decide) xf_X9_19 rfl dX9_shared_108 ?_
      refine lv_iload hx hb dX9_shared_111 (lv_at hl 7 rfl) ?_
      obtain ⟨hi10, hm⟩ := xifn hm
      refine xiald X hP 41 xy41 hi10 dX9_shared_113 ?_
      obtain ⟨hi11, hm⟩ := xifn hm
      refine xiald X hP 48 xy48 hi11 dX9_shared_114 ?_
      refine lv_icmp_le (tgt := 123) hx hb dX9_shared_115 (by decide) (fun c12 => ?_) (fun c12 => ?_)
      · have hm := xift c12 hm
        refine lv_aload_n hx hb dX9_shared_123 rfl (lv_at hl 1 rfl) ?_
        refine xget xcX9 X hP 37 13 xy37 (by decide) xf_X9_41 rfl dX9_shared_124 ?_
        refine lv_aload_n hx hb dX9_shared_127 rfl (lv_at hl 1 rfl) ?_
        refine xget xcX9 X hP 37 4 xy37 (by decide) xf_X9_19 rfl dX9_shared_128 ?_
        refine lv_iload hx hb dX9_shared_131 (lv_at hl 7 rfl) ?_
        obtain ⟨hi13, hm⟩ := xifn hm
        refine xiald X hP 41 xy41 hi13 dX9_shared_133 ?_
        obtain ⟨hi14, hm⟩ := xifn hm
        refine xiald X hP 48 xy48 hi14 dX9_shared_134 ?_
        exact kX9_shared_135 X V k30 hk30 (fX9_shared_66 k30 n) ih x1 x2 x3 x4 x5 x6 (M 41 x6.toNatClampNeg) (M 48 (M 41 x6.toNatClampNeg).toNatClampNeg) M _ _ _ hm hP hS (lv_sub hl [1, 2, 3, 4, 5, 6, 7] rfl)
      · have hm := xiff c12 hm
        refine lv_iload hx hb dX9_shared_118 (lv_at hl 0 rfl) ?_
        refine lv_goto (tgt := 135) hx hb dX9_shared_120 (by decide) ?_
        exact kX9_shared_135 X V k30 hk30 (fX9_shared_66 k30 n) ih x1 x2 x3 x4 x5 x6 (M 41 x6.toNatClampNeg) v8 M _ _ _ hm hP hS (lv_sub hl [1, 2, 3, 4, 5, 6, 7] rfl)
def fX9_shared_63 (k30 : Int32 → Int32 → Int32 → Int32 → Int32 → xM → Option (Int32 × xM)) (x1 : Int32) (x2 : Int32) (x3 : Int32) (x4 : Int32) (x5 : Int32) (M : xM) : Option (Int32 × xM) := fX9_shared_66 k30 4096 x1 x2 x3 x4 x5 0 M
theorem fX9_shared_63_s (k30 : Int32 → Int32 → Int32 → Int32 → Int32 → xM → Option (Int32 × xM)) (x1 : Int32) (x2 : Int32) (x3 : Int32) (x4 : Int32) (x5 : Int32) (M : xM) : fX9_shared_63 k30 x1 x2 x3 x4 x5 M = (fX9_shared_66 k30 4096 x1 x2 x3 x4 x5 0 M) := rfl
set_option maxHeartbeats 4000000 in
set_option maxRecDepth 100000 in
theorem kX9_shared_63 {p : Program} {l : Launch} {e : Env} {s : State} {m : MethodId} {args : Array Value} {below : List Frame} {meth : Method} {c : Code} {w : xT} (X : xX p s m args meth c cX9_shared 8 (some .int) RX9 w) (V : Int32 × xM) (k30 : Int32 → Int32 → Int32 → Int32 → Int32 → xM → Option (Int32 × xM)) (hk30 : ∀ (x1 : Int32) (x2 : Int32) (x3 : Int32) (x4 : Int32) (x5 : Int32) (M : xM) (H : Heap) (locs : List Loc) (ls : Array Slot), k30 x1 x2 x3 x4 x5 M = some V → xP w M H → xS w s H locs → lv_has ls 8 [(0, .ref (xa w 37)), (1, .int x1), (2, .int x2), (3, .int x3), (4, .int x4), (5, .int x5)] → W p l e { frames := 2, cells := 0, slots := 0, locals := 50 } s m args below meth c H locs 0 0 (xQ w (some (.int V.1)) V.2 below args s) (F0 m 30 ls [])) : ∀ (x1 : Int32) (x2 : Int32) (x3 : Int32) (x4 : Int32) (x5 : Int32) (M : xM) (H : Heap) (locs : List Loc) (ls : Array Slot), fX9_shared_63 k30 x1 x2 x3 x4 x5 M = some V → xP w M H → xS w s H locs → lv_has ls 8 [(0, .ref (xa w 37)), (1, .int x1), (2, .int x2), (3, .int x3), (4, .int x4), (5, .int x5)] → W p l e { frames := 2, cells := 0, slots := 0, locals := 50 } s m args below meth c H locs 0 0 (xQ w (some (.int V.1)) V.2 below args s) (F0 m 63 ls []) := by
  have hx := X.1
  have hb := X.2.1
  have hown := X.2.2.2.2.2.1
  have hts := X.2.2.2.2.2.2.1
  intro x1 x2 x3 x4 x5 M H locs ls hm hP hS hl
  rw [fX9_shared_63_s] at hm
  refine lv_iconst (v := 0) hx hb dX9_shared_63 (by decide) ?_
  refine lv_istore (lv' := [(6, .int 0), (0, .ref (xa w 37)), (1, .int x1), (2, .int x2), (3, .int x3), (4, .int x4), (5, .int x5)]) hx hb dX9_shared_64 hl (by decide) rfl (fun ls hl => ?_)
  exact kX9_shared_66 X V k30 hk30 4096 x1 x2 x3 x4 x5 0 M _ _ _ hm hP hS (lv_sub hl [1, 2, 3, 4, 5, 6, 0] rfl)
def fX9_shared_42 (k30 : Int32 → Int32 → Int32 → Int32 → Int32 → xM → Option (Int32 × xM)) : Nat → Int32 → Int32 → Int32 → Int32 → Int32 → Int32 → xM → Option (Int32 × xM)
  | 0 => fun _ _ _ _ _ _ _ => none
  | n + 1 => fun x1 x2 x3 x4 x5 x6 M => if 8 ≤ x6 then (fX9_shared_63 k30 x1 x2 x3 x4 x5 M) else (if xin x6 8 then xlt (xs1 M 48 x6.toNatClampNeg 0) fun M17 => fX9_shared_42 k30 n x1 x2 x3 x4 x5 (x6 + 1) M17 else none)
theorem fX9_shared_42_s (k30 : Int32 → Int32 → Int32 → Int32 → Int32 → xM → Option (Int32 × xM)) (n : Nat) (x1 : Int32) (x2 : Int32) (x3 : Int32) (x4 : Int32) (x5 : Int32) (x6 : Int32) (M : xM) : fX9_shared_42 k30 (n + 1) x1 x2 x3 x4 x5 x6 M = (if 8 ≤ x6 then (fX9_shared_63 k30 x1 x2 x3 x4 x5 M) else (if xin x6 8 then xlt (xs1 M 48 x6.toNatClampNeg 0) fun M17 => fX9_shared_42 k30 n x1 x2 x3 x4 x5 (x6 + 1) M17 else none)) := rfl
set_option maxHeartbeats 4000000 in
set_option maxRecDepth 100000 in
theorem kX9_shared_42 {p : Program} {l : Launch} {e : Env} {s : State} {m : MethodId} {args : Array Value} {below : List Frame} {meth : Method} {c : Code} {w : xT} (X : xX p s m args meth c cX9_shared 8 (some .int) RX9 w) (V : Int32 × xM) (k30 : Int32 → Int32 → Int32 → Int32 → Int32 → xM → Option (Int32 × xM)) (hk30 : ∀ (x1 : Int32) (x2 : Int32) (x3 : Int32) (x4 : Int32) (x5 : Int32) (M : xM) (H : Heap) (locs : List Loc) (ls : Array Slot), k30 x1 x2 x3 x4 x5 M = some V → xP w M H → xS w s H locs → lv_has ls 8 [(0, .ref (xa w 37)), (1, .int x1), (2, .int x2), (3, .int x3), (4, .int x4), (5, .int x5)] → W p l e { frames := 2, cells := 0, slots := 0, locals := 50 } s m args below meth c H locs 0 0 (xQ w (some (.int V.1)) V.2 below args s) (F0 m 30 ls [])) : ∀ (n : Nat) (x1 : Int32) (x2 : Int32) (x3 : Int32) (x4 : Int32) (x5 : Int32) (x6 : Int32) (M : xM) (H : Heap) (locs : List Loc) (ls : Array Slot), fX9_shared_42 k30 n x1 x2 x3 x4 x5 x6 M = some V → xP w M H → xS w s H locs → lv_has ls 8 [(0, .ref (xa w 37)), (1, .int x1), (2, .int x2), (3, .int x3), (4, .int x4), (5, .int x5), (6, .int x6)] → W p l e { frames := 2, cells := 0, slots := 0, locals := 50 } s m args below meth c H locs 0 0 (xQ w (some (.int V.1)) V.2 below args s) (F0 m 42 ls []) := by
  have hx := X.1
  have hb := X.2.1
  have hown := X.2.2.2.2.2.1
  have hts := X.2.2.2.2.2.2.1
  intro n
  induction n with
  | zero => intro x1 x2 x3 x4 x5 x6 M H locs ls hm hP hS hl; exact xnon hm
  | succ n ih =>
    intro x1 x2 x3 x4 x5 x6 M H locs ls hm hP hS hl
    rw [fX9_shared_42_s] at hm
    refine lv_iload hx hb dX9_shared_42 (lv_at hl 6 rfl) ?_
    refine lv_bipush (v := 8) hx hb dX9_shared_44 (by decide) ?_
    refine lv_icmp_ge (tgt := 63) hx hb dX9_shared_46 (by decide) (fun c15 => ?_) (fun c15 => ?_)
    · have hm := xift c15 hm
      exact kX9_shared_63 X V k30 hk30 x1 x2 x3 x4 x5 M _ _ _ hm hP hS (lv_sub hl [0, 1, 2, 3, 4, 5] rfl)
    · have hm := xiff c15 hm
      refine lv_aload_n hx hb dX9_shared_49 rfl (lv_at hl 0 rfl) ?_
      refine xget xcX9 X hP 37 13 xy37 (by decide) xf_X9_41 rfl dX9_shared_50 ?_
      refine lv_iload hx hb dX9_shared_53 (lv_at hl 6 rfl) ?_
      refine lv_iconst (v := 0) hx hb dX9_shared_55 (by decide) ?_
      obtain ⟨hi16, hm⟩ := xifn hm
      refine xiast X hP hS 48 xy48 hi16 dX9_shared_56 (fun M17 H locs eM17 hP hS => ?_)
      have hm := xltE hm eM17
      refine lv_iinc (v := x6 + 1) (lv' := [(6, .int (x6 + 1)), (0, .ref (xa w 37)), (1, .int x1), (2, .int x2), (3, .int x3), (4, .int x4), (5, .int x5)]) hx hb dX9_shared_57 hl (k := 6) rfl rfl (by decide) rfl (fun ls hl => ?_)
      refine lv_goto (tgt := 42) hx hb dX9_shared_60 (by decide) ?_
      exact ih x1 x2 x3 x4 x5 (x6 + 1) M17 _ _ _ hm hP hS (lv_sub hl [1, 2, 3, 4, 5, 6, 0] rfl)
def fX9_shared_30  : Nat → Int32 → Int32 → Int32 → Int32 → Int32 → xM → Option (Int32 × xM)
  | 0 => fun _ _ _ _ _ _ => none
  | n + 1 => fun x1 x2 x3 x4 x5 M => if (M 37 6) ≤ x5 then (fX9_shared_168 x2 x3 x4 M) else (fX9_shared_42 (fX9_shared_30 n) 4096 x1 x2 x3 x4 x5 0 M)
theorem fX9_shared_30_s  (n : Nat) (x1 : Int32) (x2 : Int32) (x3 : Int32) (x4 : Int32) (x5 : Int32) (M : xM) : fX9_shared_30  (n + 1) x1 x2 x3 x4 x5 M = (if (M 37 6) ≤ x5 then (fX9_shared_168 x2 x3 x4 M) else (fX9_shared_42 (fX9_shared_30 n) 4096 x1 x2 x3 x4 x5 0 M)) := rfl
set_option maxHeartbeats 4000000 in
set_option maxRecDepth 100000 in
theorem kX9_shared_30 {p : Program} {l : Launch} {e : Env} {s : State} {m : MethodId} {args : Array Value} {below : List Frame} {meth : Method} {c : Code} {w : xT} (X : xX p s m args meth c cX9_shared 8 (some .int) RX9 w) (V : Int32 × xM)  : ∀ (n : Nat) (x1 : Int32) (x2 : Int32) (x3 : Int32) (x4 : Int32) (x5 : Int32) (M : xM) (H : Heap) (locs : List Loc) (ls : Array Slot), fX9_shared_30  n x1 x2 x3 x4 x5 M = some V → xP w M H → xS w s H locs → lv_has ls 8 [(0, .ref (xa w 37)), (1, .int x1), (2, .int x2), (3, .int x3), (4, .int x4), (5, .int x5)] → W p l e { frames := 2, cells := 0, slots := 0, locals := 50 } s m args below meth c H locs 0 0 (xQ w (some (.int V.1)) V.2 below args s) (F0 m 30 ls []) := by
  have hx := X.1
  have hb := X.2.1
  have hown := X.2.2.2.2.2.1
  have hts := X.2.2.2.2.2.2.1
  intro n
  induction n with
  | zero => intro x1 x2 x3 x4 x5 M H locs ls hm hP hS hl; exact xnon hm
  | succ n ih =>
    intro x1 x2 x3 x4 x5 M H locs ls hm hP hS hl
    rw [fX9_shared_30_s] at hm
    refine lv_iload hx hb dX9_shared_30 (lv_at hl 5 rfl) ?_
    refine lv_aload_n hx hb dX9_shared_32 rfl (lv_at hl 0 rfl) ?_
    refine xgeti xcX9 X hP 37 6 xy37 (by decide) xf_X9_48 rfl dX9_shared_33 ?_
    refine lv_icmp_ge (tgt := 168) hx hb dX9_shared_36 (by decide) (fun c18 => ?_) (fun c18 => ?_)
    · have hm := xift c18 hm
      exact kX9_shared_168 X V  x2 x3 x4 M _ _ _ hm hP hS (lv_sub hl [0, 2, 3, 4] rfl)
    · have hm := xiff c18 hm
      refine lv_iconst (v := 0) hx hb dX9_shared_39 (by decide) ?_
      refine lv_istore (lv' := [(6, .int 0), (0, .ref (xa w 37)), (1, .int x1), (2, .int x2), (3, .int x3), (4, .int x4), (5, .int x5)]) hx hb dX9_shared_40 hl (by decide) rfl (fun ls hl => ?_)
      exact kX9_shared_42 X V (fX9_shared_30 n) ih 4096 x1 x2 x3 x4 x5 0 M _ _ _ hm hP hS (lv_sub hl [1, 2, 3, 4, 5, 6, 0] rfl)
def fX9_shared (x1 : Int32) (x2 : Int32) (M : xM) : Option (Int32 × xM) := if x1 < 1 then (some ((-1), M)) else (if 8 < x1 then (some ((-1), M)) else (if x2 < 0 then (some ((-1), M)) else (if x2 ≤ 3 then (fX9_shared_30 4096 x1 x2 0 0 0 M) else (some ((-1), M)))))
theorem fX9_shared_s (x1 : Int32) (x2 : Int32) (M : xM) : fX9_shared x1 x2 M = (if x1 < 1 then (some ((-1), M)) else (if 8 < x1 then (some ((-1), M)) else (if x2 < 0 then (some ((-1), M)) else (if x2 ≤ 3 then (fX9_shared_30 4096 x1 x2 0 0 0 M) else (some ((-1), M)))))) := rfl
set_option maxHeartbeats 4000000 in
set_option maxRecDepth 100000 in
theorem qX9_shared (l : Launch) (w : xT) (x1 : Int32) (x2 : Int32) (M : xM) (V : Int32 × xM) (hm : fX9_shared x1 x2 M = some V) : xC l yX9_shared (Cond.code yX9_shared cX9_shared 8 (some .int)) { frames := 2, cells := 0, slots := 0, locals := 50 } w [.ref (xa w 37), .int x1, .int x2] M (some (.int V.1)) V.2 := by
  refine xC.of (by decide) (Nat.le_of_ble_eq_true rfl) ?_
  intro p e s m args below meth c ls X hP hS hl
  have hl : lv_has ls 8 [(0, .ref (xa w 37)), (1, .int x1), (2, .int x2)] := hl
  have X : xX p s m args meth c cX9_shared 8 (some .int) RX9 w := X
  have hx := X.1
  have hb := X.2.1
  have hown := X.2.2.2.2.2.1
  have hts := X.2.2.2.2.2.2.1
  rw [fX9_shared_s] at hm
  refine lv_iload_n hx hb dX9_shared_0 rfl (lv_at hl 1 rfl) ?_
  refine lv_iconst (v := 1) hx hb dX9_shared_1 (by decide) ?_
  refine lv_icmp_lt (tgt := 20) hx hb dX9_shared_2 (by decide) (fun c19 => ?_) (fun c19 => ?_)
  · have hm := xift c19 hm
    refine lv_iconst (v := (-1)) hx hb dX9_shared_20 (by decide) ?_
    obtain rfl := Option.some.inj hm
    exact xiret X hP hS dX9_shared_21
  · have hm := xiff c19 hm
    refine lv_iload_n hx hb dX9_shared_5 rfl (lv_at hl 1 rfl) ?_
    refine lv_bipush (v := 8) hx hb dX9_shared_6 (by decide) ?_
    refine lv_icmp_gt (tgt := 20) hx hb dX9_shared_8 (by decide) (fun c20 => ?_) (fun c20 => ?_)
    · have hm := xift c20 hm
      refine lv_iconst (v := (-1)) hx hb dX9_shared_20 (by decide) ?_
      obtain rfl := Option.some.inj hm
      exact xiret X hP hS dX9_shared_21
    · have hm := xiff c20 hm
      refine lv_iload_n hx hb dX9_shared_11 rfl (lv_at hl 2 rfl) ?_
      refine lv_if_lt (tgt := 20) hx hb dX9_shared_12 (by decide) (fun c21 => ?_) (fun c21 => ?_)
      · have hm := xift c21 hm
        refine lv_iconst (v := (-1)) hx hb dX9_shared_20 (by decide) ?_
        obtain rfl := Option.some.inj hm
        exact xiret X hP hS dX9_shared_21
      · have hm := xiff c21 hm
        refine lv_iload_n hx hb dX9_shared_15 rfl (lv_at hl 2 rfl) ?_
        refine lv_iconst (v := 3) hx hb dX9_shared_16 (by decide) ?_
        refine lv_icmp_le (tgt := 22) hx hb dX9_shared_17 (by decide) (fun c22 => ?_) (fun c22 => ?_)
        · have hm := xift c22 hm
          refine lv_iconst (v := 0) hx hb dX9_shared_22 (by decide) ?_
          refine lv_istore_n (lv' := [(3, .int 0), (0, .ref (xa w 37)), (1, .int x1), (2, .int x2)]) hx hb dX9_shared_23 rfl hl (by decide) rfl (fun ls hl => ?_)
          refine lv_iconst (v := 0) hx hb dX9_shared_24 (by decide) ?_
          refine lv_istore (lv' := [(4, .int 0), (3, .int 0), (0, .ref (xa w 37)), (1, .int x1), (2, .int x2)]) hx hb dX9_shared_25 hl (by decide) rfl (fun ls hl => ?_)
          refine lv_iconst (v := 0) hx hb dX9_shared_27 (by decide) ?_
          refine lv_istore (lv' := [(5, .int 0), (4, .int 0), (3, .int 0), (0, .ref (xa w 37)), (1, .int x1), (2, .int x2)]) hx hb dX9_shared_28 hl (by decide) rfl (fun ls hl => ?_)
          exact kX9_shared_30 X V  4096 x1 x2 0 0 0 M _ _ _ hm hP hS (lv_sub hl [3, 4, 5, 2, 1, 0] rfl)
        · have hm := xiff c22 hm
          refine lv_iconst (v := (-1)) hx hb dX9_shared_20 (by decide) ?_
          obtain rfl := Option.some.inj hm
          exact xiret X hP hS dX9_shared_21
def fX7_previous (x1 : Int32) (M0 : xM) : Option (Int32) := if x1 = 0 then (some ((M0 4 4) - 1)) else (some (x1 - 1))
theorem fX7_previous_s (x1 : Int32) (M0 : xM) : fX7_previous x1 M0 = (if x1 = 0 then (some ((M0 4 4) - 1)) else (some (x1 - 1))) := rfl
set_option maxHeartbeats 4000000 in
set_option maxRecDepth 100000 in
theorem qX7_previous (l : Launch) (w : xT) (x1 : Int32) (M0 : xM) (V : Int32) (hm : fX7_previous x1 M0 = some V) : xC l yX7_previous (Cond.code yX7_previous cX7_previous 2 (some .int)) { frames := 0, cells := 0, slots := 0, locals := 0 } w [.ref (xa w 4), .int x1] M0 (some (.int V)) M0 := by
  refine xC.of (by decide) (Nat.le_of_ble_eq_true rfl) ?_
  intro p e s m args below meth c ls X hP hS hl
  have hl : lv_has ls 2 [(0, .ref (xa w 4)), (1, .int x1)] := hl
  have X : xX p s m args meth c cX7_previous 2 (some .int) RX7 w := X
  have hx := X.1
  have hb := X.2.1
  have hown := X.2.2.2.2.2.1
  have hts := X.2.2.2.2.2.2.1
  rw [fX7_previous_s] at hm
  refine lv_iload_n hx hb dX7_previous_0 rfl (lv_at hl 1 rfl) ?_
  refine lv_if_ne (tgt := 13) hx hb dX7_previous_1 (by decide) (fun c1 => ?_) (fun c1 => ?_)
  · have hm := xiff c1 hm
    refine lv_iload_n hx hb dX7_previous_13 rfl (lv_at hl 1 rfl) ?_
    refine lv_iconst (v := 1) hx hb dX7_previous_14 (by decide) ?_
    refine lv_isub hx hb dX7_previous_15 ?_
    obtain rfl := Option.some.inj hm
    exact xiret X hP hS dX7_previous_16
  · have hm := xift c1 hm
    refine lv_aload_n hx hb dX7_previous_4 rfl (lv_at hl 0 rfl) ?_
    refine xgeti xcX7 X hP 4 4 xy4 (by decide) xf_X7_24 rfl dX7_previous_5 ?_
    refine lv_iconst (v := 1) hx hb dX7_previous_8 (by decide) ?_
    refine lv_isub hx hb dX7_previous_9 ?_
    refine lv_goto (tgt := 16) hx hb dX7_previous_10 (by decide) ?_
    obtain rfl := Option.some.inj hm
    exact xiret X hP hS dX7_previous_16
def fX8_before (x1 : Int32) (M0 : xM) : Option (Int32) := (fX7_has x1 M0).bind fun v1 => if v1 = 0 then (some (-1)) else (if xin x1 408 then (fX7_previous (M0 10 x1.toNatClampNeg) M0).bind fun v4 => (fX7_shown v4 M0).bind fun v5 => some v5 else none)
theorem fX8_before_s (x1 : Int32) (M0 : xM) : fX8_before x1 M0 = ((fX7_has x1 M0).bind fun v1 => if v1 = 0 then (some (-1)) else (if xin x1 408 then (fX7_previous (M0 10 x1.toNatClampNeg) M0).bind fun v4 => (fX7_shown v4 M0).bind fun v5 => some v5 else none)) := rfl
set_option maxHeartbeats 4000000 in
set_option maxRecDepth 100000 in
theorem qX8_before (l : Launch) (w : xT) (x1 : Int32) (M0 : xM) (V : Int32) (hm : fX8_before x1 M0 = some V) : xC l yX8_before (Cond.code yX8_before cX8_before 2 (some .int)) { frames := 2, cells := 0, slots := 0, locals := 42 } w [.ref (xa w 0), .int x1] M0 (some (.int V)) M0 := by
  refine xC.of (by decide) (Nat.le_of_ble_eq_true rfl) ?_
  intro p e s m args below meth c ls X hP hS hl
  have hl : lv_has ls 2 [(0, .ref (xa w 0)), (1, .int x1)] := hl
  have X : xX p s m args meth c cX8_before 2 (some .int) RX8 w := X
  have hx := X.1
  have hb := X.2.1
  have hown := X.2.2.2.2.2.1
  have hts := X.2.2.2.2.2.2.1
  rw [fX8_before_s] at hm
  refine lv_aload_n hx hb dX8_before_0 rfl (lv_at hl 0 rfl) ?_
  refine xget xcX8 X hP 0 1 xy0 (by decide) xf_X8_19 rfl dX8_before_1 ?_
  refine lv_iload_n hx hb dX8_before_4 rfl (lv_at hl 1 rfl) ?_
  obtain ⟨v1, hg, hm⟩ := xbnd hm
  refine xcallV xm_X8_99 xt_X7_has X hP hS (qX7_has l w x1 M0 v1 hg) xy4 rfl ⟨Nat.le_of_ble_eq_true rfl, Nat.le_of_ble_eq_true rfl⟩ ⟨rfl, rfl⟩ hl.1 rfl (rest := []) rfl (Nat.le_of_ble_eq_true rfl) dX8_before_5 ⟨Nat.zero_le _, Nat.zero_le _⟩ (fun H locs hP hS => ?_)
  refine W.eq (g2 := F0 m 8 ls [.int v1]) rfl ?_
  refine lv_if_eq (tgt := 37) hx hb dX8_before_8 (by decide) (fun c2 => ?_) (fun c2 => ?_)
  · have hm := xift c2 hm
    refine lv_iconst (v := (-1)) hx hb dX8_before_37 (by decide) ?_
    obtain rfl := Option.some.inj hm
    exact xiret X hP hS dX8_before_38
  · have hm := xiff c2 hm
    refine lv_aload_n hx hb dX8_before_11 rfl (lv_at hl 0 rfl) ?_
    refine xget xcX8 X hP 0 1 xy0 (by decide) xf_X8_19 rfl dX8_before_12 ?_
    refine lv_aload_n hx hb dX8_before_15 rfl (lv_at hl 0 rfl) ?_
    refine xget xcX8 X hP 0 1 xy0 (by decide) xf_X8_19 rfl dX8_before_16 ?_
    refine lv_aload_n hx hb dX8_before_19 rfl (lv_at hl 0 rfl) ?_
    refine xget xcX8 X hP 0 2 xy0 (by decide) xf_X8_28 rfl dX8_before_20 ?_
    refine xget xcX3 X hP 9 0 xy9 (by decide) xf_X8_112 rfl dX8_before_23 ?_
    refine lv_iload_n hx hb dX8_before_26 rfl (lv_at hl 1 rfl) ?_
    obtain ⟨hi3, hm⟩ := xifn hm
    refine xiald X hP 10 xy10 hi3 dX8_before_27 ?_
    obtain ⟨v4, hg, hm⟩ := xbnd hm
    refine xcallV xm_X8_171 xt_X7_previous X hP hS (qX7_previous l w (M0 10 x1.toNatClampNeg) M0 v4 hg) xy4 rfl ⟨Nat.le_of_ble_eq_true rfl, Nat.le_of_ble_eq_true rfl⟩ ⟨rfl, rfl⟩ hl.1 rfl (rest := [.ref (xa w 4)]) rfl (Nat.le_of_ble_eq_true rfl) dX8_before_28 ⟨Nat.zero_le _, Nat.zero_le _⟩ (fun H locs hP hS => ?_)
    refine W.eq (g2 := F0 m 31 ls [.int v4, .ref (xa w 4)]) rfl ?_
    obtain ⟨v5, hg, hm⟩ := xbnd hm
    refine xcallV xm_X8_102 xt_X7_shown X hP hS (qX7_shown l w v4 M0 v5 hg) xy4 rfl ⟨Nat.le_of_ble_eq_true rfl, Nat.le_of_ble_eq_true rfl⟩ ⟨rfl, rfl⟩ hl.1 rfl (rest := []) rfl (Nat.le_of_ble_eq_true rfl) dX8_before_31 ⟨Nat.zero_le _, Nat.zero_le _⟩ (fun H locs hP hS => ?_)
    refine W.eq (g2 := F0 m 34 ls [.int v5]) rfl ?_
    refine lv_goto (tgt := 38) hx hb dX8_before_34 (by decide) ?_
    obtain rfl := Option.some.inj hm
    exact xiret X hP hS dX8_before_38
def fX9_placeBefore (x1 : Int32) (M0 : xM) : Option (Int32) := if x1 = 0 then (some ((M0 37 6) - 1)) else (some (x1 - 1))
theorem fX9_placeBefore_s (x1 : Int32) (M0 : xM) : fX9_placeBefore x1 M0 = (if x1 = 0 then (some ((M0 37 6) - 1)) else (some (x1 - 1))) := rfl
set_option maxHeartbeats 4000000 in
set_option maxRecDepth 100000 in
theorem qX9_placeBefore (l : Launch) (w : xT) (x1 : Int32) (M0 : xM) (V : Int32) (hm : fX9_placeBefore x1 M0 = some V) : xC l yX9_placeBefore (Cond.code yX9_placeBefore cX9_placeBefore 2 (some .int)) { frames := 0, cells := 0, slots := 0, locals := 0 } w [.ref (xa w 37), .int x1] M0 (some (.int V)) M0 := by
  refine xC.of (by decide) (Nat.le_of_ble_eq_true rfl) ?_
  intro p e s m args below meth c ls X hP hS hl
  have hl : lv_has ls 2 [(0, .ref (xa w 37)), (1, .int x1)] := hl
  have X : xX p s m args meth c cX9_placeBefore 2 (some .int) RX9 w := X
  have hx := X.1
  have hb := X.2.1
  have hown := X.2.2.2.2.2.1
  have hts := X.2.2.2.2.2.2.1
  rw [fX9_placeBefore_s] at hm
  refine lv_iload_n hx hb dX9_placeBefore_0 rfl (lv_at hl 1 rfl) ?_
  refine lv_if_ne (tgt := 13) hx hb dX9_placeBefore_1 (by decide) (fun c1 => ?_) (fun c1 => ?_)
  · have hm := xiff c1 hm
    refine lv_iload_n hx hb dX9_placeBefore_13 rfl (lv_at hl 1 rfl) ?_
    refine lv_iconst (v := 1) hx hb dX9_placeBefore_14 (by decide) ?_
    refine lv_isub hx hb dX9_placeBefore_15 ?_
    obtain rfl := Option.some.inj hm
    exact xiret X hP hS dX9_placeBefore_16
  · have hm := xift c1 hm
    refine lv_aload_n hx hb dX9_placeBefore_4 rfl (lv_at hl 0 rfl) ?_
    refine xgeti xcX9 X hP 37 6 xy37 (by decide) xf_X9_48 rfl dX9_placeBefore_5 ?_
    refine lv_iconst (v := 1) hx hb dX9_placeBefore_8 (by decide) ?_
    refine lv_isub hx hb dX9_placeBefore_9 ?_
    refine lv_goto (tgt := 16) hx hb dX9_placeBefore_10 (by decide) ?_
    obtain rfl := Option.some.inj hm
    exact xiret X hP hS dX9_placeBefore_16
def fX9_before (x1 : Int32) (M0 : xM) : Option (Int32) := (fX9_isPlace x1 M0).bind fun v1 => if v1 = 0 then (some (-1)) else (if xin x1 408 then (fX9_placeBefore (M0 44 x1.toNatClampNeg) M0).bind fun v4 => if xin v4 408 then some (M0 40 v4.toNatClampNeg) else none else none)
theorem fX9_before_s (x1 : Int32) (M0 : xM) : fX9_before x1 M0 = ((fX9_isPlace x1 M0).bind fun v1 => if v1 = 0 then (some (-1)) else (if xin x1 408 then (fX9_placeBefore (M0 44 x1.toNatClampNeg) M0).bind fun v4 => if xin v4 408 then some (M0 40 v4.toNatClampNeg) else none else none)) := rfl
set_option maxHeartbeats 4000000 in
set_option maxRecDepth 100000 in
theorem qX9_before (l : Launch) (w : xT) (x1 : Int32) (M0 : xM) (V : Int32) (hm : fX9_before x1 M0 = some V) : xC l yX9_before (Cond.code yX9_before cX9_before 2 (some .int)) { frames := 1, cells := 0, slots := 0, locals := 21 } w [.ref (xa w 37), .int x1] M0 (some (.int V)) M0 := by
  refine xC.of (by decide) (Nat.le_of_ble_eq_true rfl) ?_
  intro p e s m args below meth c ls X hP hS hl
  have hl : lv_has ls 2 [(0, .ref (xa w 37)), (1, .int x1)] := hl
  have X : xX p s m args meth c cX9_before 2 (some .int) RX9 w := X
  have hx := X.1
  have hb := X.2.1
  have hown := X.2.2.2.2.2.1
  have hts := X.2.2.2.2.2.2.1
  rw [fX9_before_s] at hm
  refine lv_aload_n hx hb dX9_before_0 rfl (lv_at hl 0 rfl) ?_
  refine lv_iload_n hx hb dX9_before_1 rfl (lv_at hl 1 rfl) ?_
  obtain ⟨v1, hg, hm⟩ := xbnd hm
  refine xcallV xm_X9_78 xt_X9_isPlace X hP hS (qX9_isPlace l w x1 M0 v1 hg) xy37 rfl ⟨Nat.le_of_ble_eq_true rfl, Nat.le_of_ble_eq_true rfl⟩ ⟨rfl, rfl⟩ hl.1 rfl (rest := []) rfl (Nat.le_of_ble_eq_true rfl) dX9_before_2 ⟨Nat.zero_le _, Nat.zero_le _⟩ (fun H locs hP hS => ?_)
  refine W.eq (g2 := F0 m 5 ls [.int v1]) rfl ?_
  refine lv_if_eq (tgt := 26) hx hb dX9_before_5 (by decide) (fun c2 => ?_) (fun c2 => ?_)
  · have hm := xift c2 hm
    refine lv_iconst (v := (-1)) hx hb dX9_before_26 (by decide) ?_
    obtain rfl := Option.some.inj hm
    exact xiret X hP hS dX9_before_27
  · have hm := xiff c2 hm
    refine lv_aload_n hx hb dX9_before_8 rfl (lv_at hl 0 rfl) ?_
    refine xget xcX9 X hP 37 3 xy37 (by decide) xf_X9_16 rfl dX9_before_9 ?_
    refine lv_aload_n hx hb dX9_before_12 rfl (lv_at hl 0 rfl) ?_
    refine lv_aload_n hx hb dX9_before_13 rfl (lv_at hl 0 rfl) ?_
    refine xget xcX9 X hP 37 8 xy37 (by decide) xf_X9_29 rfl dX9_before_14 ?_
    refine lv_iload_n hx hb dX9_before_17 rfl (lv_at hl 1 rfl) ?_
    obtain ⟨hi3, hm⟩ := xifn hm
    refine xiald X hP 44 xy44 hi3 dX9_before_18 ?_
    obtain ⟨v4, hg, hm⟩ := xbnd hm
    refine xcallV xm_X9_104 xt_X9_placeBefore X hP hS (qX9_placeBefore l w (M0 44 x1.toNatClampNeg) M0 v4 hg) xy37 rfl ⟨Nat.le_of_ble_eq_true rfl, Nat.le_of_ble_eq_true rfl⟩ ⟨rfl, rfl⟩ hl.1 rfl (rest := [.ref (xa w 40)]) rfl (Nat.le_of_ble_eq_true rfl) dX9_before_19 ⟨Nat.zero_le _, Nat.zero_le _⟩ (fun H locs hP hS => ?_)
    refine W.eq (g2 := F0 m 22 ls [.int v4, .ref (xa w 40)]) rfl ?_
    obtain ⟨hi5, hm⟩ := xifn hm
    refine xiald X hP 40 xy40 hi5 dX9_before_22 ?_
    refine lv_goto (tgt := 27) hx hb dX9_before_23 (by decide) ?_
    obtain rfl := Option.some.inj hm
    exact xiret X hP hS dX9_before_27
def fX8_back (x1 : Int32) (M0 : xM) : Option (Int32) := (fX7_has x1 M0).bind fun v1 => if v1 = 0 then (some (-1)) else (if xin x1 408 then (fX7_previous (M0 10 x1.toNatClampNeg) M0).bind fun v4 => if xin v4 408 then some (M0 11 v4.toNatClampNeg) else none else none)
theorem fX8_back_s (x1 : Int32) (M0 : xM) : fX8_back x1 M0 = ((fX7_has x1 M0).bind fun v1 => if v1 = 0 then (some (-1)) else (if xin x1 408 then (fX7_previous (M0 10 x1.toNatClampNeg) M0).bind fun v4 => if xin v4 408 then some (M0 11 v4.toNatClampNeg) else none else none)) := rfl
set_option maxHeartbeats 4000000 in
set_option maxRecDepth 100000 in
theorem qX8_back (l : Launch) (w : xT) (x1 : Int32) (M0 : xM) (V : Int32) (hm : fX8_back x1 M0 = some V) : xC l yX8_back (Cond.code yX8_back cX8_back 2 (some .int)) { frames := 1, cells := 0, slots := 0, locals := 21 } w [.ref (xa w 0), .int x1] M0 (some (.int V)) M0 := by
  refine xC.of (by decide) (Nat.le_of_ble_eq_true rfl) ?_
  intro p e s m args below meth c ls X hP hS hl
  have hl : lv_has ls 2 [(0, .ref (xa w 0)), (1, .int x1)] := hl
  have X : xX p s m args meth c cX8_back 2 (some .int) RX8 w := X
  have hx := X.1
  have hb := X.2.1
  have hown := X.2.2.2.2.2.1
  have hts := X.2.2.2.2.2.2.1
  rw [fX8_back_s] at hm
  refine lv_aload_n hx hb dX8_back_0 rfl (lv_at hl 0 rfl) ?_
  refine xget xcX8 X hP 0 1 xy0 (by decide) xf_X8_19 rfl dX8_back_1 ?_
  refine lv_iload_n hx hb dX8_back_4 rfl (lv_at hl 1 rfl) ?_
  obtain ⟨v1, hg, hm⟩ := xbnd hm
  refine xcallV xm_X8_99 xt_X7_has X hP hS (qX7_has l w x1 M0 v1 hg) xy4 rfl ⟨Nat.le_of_ble_eq_true rfl, Nat.le_of_ble_eq_true rfl⟩ ⟨rfl, rfl⟩ hl.1 rfl (rest := []) rfl (Nat.le_of_ble_eq_true rfl) dX8_back_5 ⟨Nat.zero_le _, Nat.zero_le _⟩ (fun H locs hP hS => ?_)
  refine W.eq (g2 := F0 m 8 ls [.int v1]) rfl ?_
  refine lv_if_eq (tgt := 38) hx hb dX8_back_8 (by decide) (fun c2 => ?_) (fun c2 => ?_)
  · have hm := xift c2 hm
    refine lv_iconst (v := (-1)) hx hb dX8_back_38 (by decide) ?_
    obtain rfl := Option.some.inj hm
    exact xiret X hP hS dX8_back_39
  · have hm := xiff c2 hm
    refine lv_aload_n hx hb dX8_back_11 rfl (lv_at hl 0 rfl) ?_
    refine xget xcX8 X hP 0 2 xy0 (by decide) xf_X8_28 rfl dX8_back_12 ?_
    refine xget xcX3 X hP 9 1 xy9 (by decide) xf_X8_115 rfl dX8_back_15 ?_
    refine lv_aload_n hx hb dX8_back_18 rfl (lv_at hl 0 rfl) ?_
    refine xget xcX8 X hP 0 1 xy0 (by decide) xf_X8_19 rfl dX8_back_19 ?_
    refine lv_aload_n hx hb dX8_back_22 rfl (lv_at hl 0 rfl) ?_
    refine xget xcX8 X hP 0 2 xy0 (by decide) xf_X8_28 rfl dX8_back_23 ?_
    refine xget xcX3 X hP 9 0 xy9 (by decide) xf_X8_112 rfl dX8_back_26 ?_
    refine lv_iload_n hx hb dX8_back_29 rfl (lv_at hl 1 rfl) ?_
    obtain ⟨hi3, hm⟩ := xifn hm
    refine xiald X hP 10 xy10 hi3 dX8_back_30 ?_
    obtain ⟨v4, hg, hm⟩ := xbnd hm
    refine xcallV xm_X8_171 xt_X7_previous X hP hS (qX7_previous l w (M0 10 x1.toNatClampNeg) M0 v4 hg) xy4 rfl ⟨Nat.le_of_ble_eq_true rfl, Nat.le_of_ble_eq_true rfl⟩ ⟨rfl, rfl⟩ hl.1 rfl (rest := [.ref (xa w 11)]) rfl (Nat.le_of_ble_eq_true rfl) dX8_back_31 ⟨Nat.zero_le _, Nat.zero_le _⟩ (fun H locs hP hS => ?_)
    refine W.eq (g2 := F0 m 34 ls [.int v4, .ref (xa w 11)]) rfl ?_
    obtain ⟨hi5, hm⟩ := xifn hm
    refine xiald X hP 11 xy11 hi5 dX8_back_34 ?_
    refine lv_goto (tgt := 39) hx hb dX8_back_35 (by decide) ?_
    obtain rfl := Option.some.inj hm
    exact xiret X hP hS dX8_back_39
def fX9_back (x1 : Int32) (M0 : xM) : Option (Int32) := (fX9_isPlace x1 M0).bind fun v1 => if v1 = 0 then (some (-1)) else (if xin x1 408 then (fX9_placeBefore (M0 44 x1.toNatClampNeg) M0).bind fun v4 => if xin v4 408 then some (M0 45 v4.toNatClampNeg) else none else none)
theorem fX9_back_s (x1 : Int32) (M0 : xM) : fX9_back x1 M0 = ((fX9_isPlace x1 M0).bind fun v1 => if v1 = 0 then (some (-1)) else (if xin x1 408 then (fX9_placeBefore (M0 44 x1.toNatClampNeg) M0).bind fun v4 => if xin v4 408 then some (M0 45 v4.toNatClampNeg) else none else none)) := rfl
set_option maxHeartbeats 4000000 in
set_option maxRecDepth 100000 in
theorem qX9_back (l : Launch) (w : xT) (x1 : Int32) (M0 : xM) (V : Int32) (hm : fX9_back x1 M0 = some V) : xC l yX9_back (Cond.code yX9_back cX9_back 2 (some .int)) { frames := 1, cells := 0, slots := 0, locals := 21 } w [.ref (xa w 37), .int x1] M0 (some (.int V)) M0 := by
  refine xC.of (by decide) (Nat.le_of_ble_eq_true rfl) ?_
  intro p e s m args below meth c ls X hP hS hl
  have hl : lv_has ls 2 [(0, .ref (xa w 37)), (1, .int x1)] := hl
  have X : xX p s m args meth c cX9_back 2 (some .int) RX9 w := X
  have hx := X.1
  have hb := X.2.1
  have hown := X.2.2.2.2.2.1
  have hts := X.2.2.2.2.2.2.1
  rw [fX9_back_s] at hm
  refine lv_aload_n hx hb dX9_back_0 rfl (lv_at hl 0 rfl) ?_
  refine lv_iload_n hx hb dX9_back_1 rfl (lv_at hl 1 rfl) ?_
  obtain ⟨v1, hg, hm⟩ := xbnd hm
  refine xcallV xm_X9_78 xt_X9_isPlace X hP hS (qX9_isPlace l w x1 M0 v1 hg) xy37 rfl ⟨Nat.le_of_ble_eq_true rfl, Nat.le_of_ble_eq_true rfl⟩ ⟨rfl, rfl⟩ hl.1 rfl (rest := []) rfl (Nat.le_of_ble_eq_true rfl) dX9_back_2 ⟨Nat.zero_le _, Nat.zero_le _⟩ (fun H locs hP hS => ?_)
  refine W.eq (g2 := F0 m 5 ls [.int v1]) rfl ?_
  refine lv_if_eq (tgt := 26) hx hb dX9_back_5 (by decide) (fun c2 => ?_) (fun c2 => ?_)
  · have hm := xift c2 hm
    refine lv_iconst (v := (-1)) hx hb dX9_back_26 (by decide) ?_
    obtain rfl := Option.some.inj hm
    exact xiret X hP hS dX9_back_27
  · have hm := xiff c2 hm
    refine lv_aload_n hx hb dX9_back_8 rfl (lv_at hl 0 rfl) ?_
    refine xget xcX9 X hP 37 9 xy37 (by decide) xf_X9_32 rfl dX9_back_9 ?_
    refine lv_aload_n hx hb dX9_back_12 rfl (lv_at hl 0 rfl) ?_
    refine lv_aload_n hx hb dX9_back_13 rfl (lv_at hl 0 rfl) ?_
    refine xget xcX9 X hP 37 8 xy37 (by decide) xf_X9_29 rfl dX9_back_14 ?_
    refine lv_iload_n hx hb dX9_back_17 rfl (lv_at hl 1 rfl) ?_
    obtain ⟨hi3, hm⟩ := xifn hm
    refine xiald X hP 44 xy44 hi3 dX9_back_18 ?_
    obtain ⟨v4, hg, hm⟩ := xbnd hm
    refine xcallV xm_X9_104 xt_X9_placeBefore X hP hS (qX9_placeBefore l w (M0 44 x1.toNatClampNeg) M0 v4 hg) xy37 rfl ⟨Nat.le_of_ble_eq_true rfl, Nat.le_of_ble_eq_true rfl⟩ ⟨rfl, rfl⟩ hl.1 rfl (rest := [.ref (xa w 45)]) rfl (Nat.le_of_ble_eq_true rfl) dX9_back_19 ⟨Nat.zero_le _, Nat.zero_le _⟩ (fun H locs hP hS => ?_)
    refine W.eq (g2 := F0 m 22 ls [.int v4, .ref (xa w 45)]) rfl ?_
    obtain ⟨hi5, hm⟩ := xifn hm
    refine xiald X hP 45 xy45 hi5 dX9_back_22 ?_
    refine lv_goto (tgt := 27) hx hb dX9_back_23 (by decide) ?_
    obtain rfl := Option.some.inj hm
    exact xiret X hP hS dX9_back_27
def fX8_steps (x1 : Int32) (x2 : Int32) (M0 : xM) : Option (Int32) := (fX7_has x1 M0).bind fun v1 => if v1 = 0 then (some (-1)) else (if x2 < 1 then (some (-1)) else (if x2 ≤ 64 then (if xin x1 408 then if ¬ x2 = 0 then some ((M0 10 x1.toNatClampNeg) - (M0 10 x1.toNatClampNeg) / x2 * x2) else none else none) else (some (-1))))
theorem fX8_steps_s (x1 : Int32) (x2 : Int32) (M0 : xM) : fX8_steps x1 x2 M0 = ((fX7_has x1 M0).bind fun v1 => if v1 = 0 then (some (-1)) else (if x2 < 1 then (some (-1)) else (if x2 ≤ 64 then (if xin x1 408 then if ¬ x2 = 0 then some ((M0 10 x1.toNatClampNeg) - (M0 10 x1.toNatClampNeg) / x2 * x2) else none else none) else (some (-1))))) := rfl
set_option maxHeartbeats 4000000 in
set_option maxRecDepth 100000 in
theorem qX8_steps (l : Launch) (w : xT) (x1 : Int32) (x2 : Int32) (M0 : xM) (V : Int32) (hm : fX8_steps x1 x2 M0 = some V) : xC l yX8_steps (Cond.code yX8_steps cX8_steps 3 (some .int)) { frames := 1, cells := 0, slots := 0, locals := 21 } w [.ref (xa w 0), .int x1, .int x2] M0 (some (.int V)) M0 := by
  refine xC.of (by decide) (Nat.le_of_ble_eq_true rfl) ?_
  intro p e s m args below meth c ls X hP hS hl
  have hl : lv_has ls 3 [(0, .ref (xa w 0)), (1, .int x1), (2, .int x2)] := hl
  have X : xX p s m args meth c cX8_steps 3 (some .int) RX8 w := X
  have hx := X.1
  have hb := X.2.1
  have hown := X.2.2.2.2.2.1
  have hts := X.2.2.2.2.2.2.1
  rw [fX8_steps_s] at hm
  refine lv_aload_n hx hb dX8_steps_0 rfl (lv_at hl 0 rfl) ?_
  refine xget xcX8 X hP 0 1 xy0 (by decide) xf_X8_19 rfl dX8_steps_1 ?_
  refine lv_iload_n hx hb dX8_steps_4 rfl (lv_at hl 1 rfl) ?_
  obtain ⟨v1, hg, hm⟩ := xbnd hm
  refine xcallV xm_X8_99 xt_X7_has X hP hS (qX7_has l w x1 M0 v1 hg) xy4 rfl ⟨Nat.le_of_ble_eq_true rfl, Nat.le_of_ble_eq_true rfl⟩ ⟨rfl, rfl⟩ hl.1 rfl (rest := []) rfl (Nat.le_of_ble_eq_true rfl) dX8_steps_5 ⟨Nat.zero_le _, Nat.zero_le _⟩ (fun H locs hP hS => ?_)
  refine W.eq (g2 := F0 m 8 ls [.int v1]) rfl ?_
  refine lv_if_eq (tgt := 22) hx hb dX8_steps_8 (by decide) (fun c2 => ?_) (fun c2 => ?_)
  · have hm := xift c2 hm
    refine lv_iconst (v := (-1)) hx hb dX8_steps_22 (by decide) ?_
    obtain rfl := Option.some.inj hm
    exact xiret X hP hS dX8_steps_23
  · have hm := xiff c2 hm
    refine lv_iload_n hx hb dX8_steps_11 rfl (lv_at hl 2 rfl) ?_
    refine lv_iconst (v := 1) hx hb dX8_steps_12 (by decide) ?_
    refine lv_icmp_lt (tgt := 22) hx hb dX8_steps_13 (by decide) (fun c3 => ?_) (fun c3 => ?_)
    · have hm := xift c3 hm
      refine lv_iconst (v := (-1)) hx hb dX8_steps_22 (by decide) ?_
      obtain rfl := Option.some.inj hm
      exact xiret X hP hS dX8_steps_23
    · have hm := xiff c3 hm
      refine lv_iload_n hx hb dX8_steps_16 rfl (lv_at hl 2 rfl) ?_
      refine lv_bipush (v := 64) hx hb dX8_steps_17 (by decide) ?_
      refine lv_icmp_le (tgt := 24) hx hb dX8_steps_19 (by decide) (fun c4 => ?_) (fun c4 => ?_)
      · have hm := xift c4 hm
        refine lv_aload_n hx hb dX8_steps_24 rfl (lv_at hl 0 rfl) ?_
        refine xget xcX8 X hP 0 2 xy0 (by decide) xf_X8_28 rfl dX8_steps_25 ?_
        refine xget xcX3 X hP 9 0 xy9 (by decide) xf_X8_112 rfl dX8_steps_28 ?_
        refine lv_iload_n hx hb dX8_steps_31 rfl (lv_at hl 1 rfl) ?_
        obtain ⟨hi5, hm⟩ := xifn hm
        refine xiald X hP 10 xy10 hi5 dX8_steps_32 ?_
        refine lv_iload_n hx hb dX8_steps_33 rfl (lv_at hl 2 rfl) ?_
        obtain ⟨hz6, hm⟩ := xifn hm
        refine lv_irem hx hb dX8_steps_34 hz6 ?_
        obtain rfl := Option.some.inj hm
        exact xiret X hP hS dX8_steps_35
      · have hm := xiff c4 hm
        refine lv_iconst (v := (-1)) hx hb dX8_steps_22 (by decide) ?_
        obtain rfl := Option.some.inj hm
        exact xiret X hP hS dX8_steps_23
def fX9_steps_31  : Nat → Int32 → Int32 → Int32 → xM → Option (Int32)
  | 0 => fun _ _ _ _ => none
  | n + 1 => fun x2 x3 x4 M0 => if ¬ x2 = 0 then if (x3 - x3 / x2 * x2) = 0 then (some x4) else ((fX9_placeBefore x3 M0).bind fun v3 => fX9_steps_31 n x2 v3 (x4 + 1) M0) else none
theorem fX9_steps_31_s  (n : Nat) (x2 : Int32) (x3 : Int32) (x4 : Int32) (M0 : xM) : fX9_steps_31  (n + 1) x2 x3 x4 M0 = (if ¬ x2 = 0 then if (x3 - x3 / x2 * x2) = 0 then (some x4) else ((fX9_placeBefore x3 M0).bind fun v3 => fX9_steps_31 n x2 v3 (x4 + 1) M0) else none) := rfl
set_option maxHeartbeats 4000000 in
set_option maxRecDepth 100000 in
theorem kX9_steps_31 {p : Program} {l : Launch} {e : Env} {s : State} {m : MethodId} {args : Array Value} {below : List Frame} {meth : Method} {c : Code} {w : xT} (X : xX p s m args meth c cX9_steps 5 (some .int) RX9 w) (V : Int32)  : ∀ (n : Nat) (x2 : Int32) (x3 : Int32) (x4 : Int32) (M0 : xM) (H : Heap) (locs : List Loc) (ls : Array Slot), fX9_steps_31  n x2 x3 x4 M0 = some V → xP w M0 H → xS w s H locs → lv_has ls 5 [(0, .ref (xa w 37)), (2, .int x2), (3, .int x3), (4, .int x4)] → W p l e { frames := 1, cells := 0, slots := 0, locals := 21 } s m args below meth c H locs 0 0 (xQ w (some (.int V)) M0 below args s) (F0 m 31 ls []) := by
  have hx := X.1
  have hb := X.2.1
  have hown := X.2.2.2.2.2.1
  have hts := X.2.2.2.2.2.2.1
  intro n
  induction n with
  | zero => intro x2 x3 x4 M0 H locs ls hm hP hS hl; exact xnon hm
  | succ n ih =>
    intro x2 x3 x4 M0 H locs ls hm hP hS hl
    rw [fX9_steps_31_s] at hm
    refine lv_iload_n hx hb dX9_steps_31 rfl (lv_at hl 2 rfl) ?_
    refine lv_iload_n hx hb dX9_steps_32 rfl (lv_at hl 1 rfl) ?_
    obtain ⟨hz1, hm⟩ := xifn hm
    refine lv_irem hx hb dX9_steps_33 hz1 ?_
    refine lv_if_eq (tgt := 49) hx hb dX9_steps_34 (by decide) (fun c2 => ?_) (fun c2 => ?_)
    · have hm := xift c2 hm
      refine lv_iload hx hb dX9_steps_49 (lv_at hl 3 rfl) ?_
      obtain rfl := Option.some.inj hm
      exact xiret X hP hS dX9_steps_51
    · have hm := xiff c2 hm
      refine lv_aload_n hx hb dX9_steps_37 rfl (lv_at hl 0 rfl) ?_
      refine lv_iload_n hx hb dX9_steps_38 rfl (lv_at hl 2 rfl) ?_
      obtain ⟨v3, hg, hm⟩ := xbnd hm
      refine xcallV xm_X9_104 xt_X9_placeBefore X hP hS (qX9_placeBefore l w x3 M0 v3 hg) xy37 rfl ⟨Nat.le_of_ble_eq_true rfl, Nat.le_of_ble_eq_true rfl⟩ ⟨rfl, rfl⟩ hl.1 rfl (rest := []) rfl (Nat.le_of_ble_eq_true rfl) dX9_steps_39 ⟨Nat.zero_le _, Nat.zero_le _⟩ (fun H locs hP hS => ?_)
      refine W.eq (g2 := F0 m 42 ls [.int v3]) rfl ?_
      refine lv_istore_n (lv' := [(3, .int v3), (0, .ref (xa w 37)), (2, .int x2), (4, .int x4)]) hx hb dX9_steps_42 rfl hl (by decide) rfl (fun ls hl => ?_)
      refine lv_iinc (v := x4 + 1) (lv' := [(4, .int (x4 + 1)), (3, .int v3), (0, .ref (xa w 37)), (2, .int x2)]) hx hb dX9_steps_43 hl (k := 3) rfl rfl (by decide) rfl (fun ls hl => ?_)
      refine lv_goto (tgt := 31) hx hb dX9_steps_46 (by decide) ?_
      exact ih x2 v3 (x4 + 1) M0 _ _ _ hm hP hS (lv_sub hl [2, 3, 1, 0] rfl)
def fX9_steps (x1 : Int32) (x2 : Int32) (M0 : xM) : Option (Int32) := (fX9_isPlace x1 M0).bind fun v4 => if v4 = 0 then (some (-1)) else (if x2 < 1 then (some (-1)) else (if x2 ≤ 64 then (if xin x1 408 then fX9_steps_31 4096 x2 (M0 44 x1.toNatClampNeg) 0 M0 else none) else (some (-1))))
theorem fX9_steps_s (x1 : Int32) (x2 : Int32) (M0 : xM) : fX9_steps x1 x2 M0 = ((fX9_isPlace x1 M0).bind fun v4 => if v4 = 0 then (some (-1)) else (if x2 < 1 then (some (-1)) else (if x2 ≤ 64 then (if xin x1 408 then fX9_steps_31 4096 x2 (M0 44 x1.toNatClampNeg) 0 M0 else none) else (some (-1))))) := rfl
set_option maxHeartbeats 4000000 in
set_option maxRecDepth 100000 in
theorem qX9_steps (l : Launch) (w : xT) (x1 : Int32) (x2 : Int32) (M0 : xM) (V : Int32) (hm : fX9_steps x1 x2 M0 = some V) : xC l yX9_steps (Cond.code yX9_steps cX9_steps 5 (some .int)) { frames := 1, cells := 0, slots := 0, locals := 21 } w [.ref (xa w 37), .int x1, .int x2] M0 (some (.int V)) M0 := by
  refine xC.of (by decide) (Nat.le_of_ble_eq_true rfl) ?_
  intro p e s m args below meth c ls X hP hS hl
  have hl : lv_has ls 5 [(0, .ref (xa w 37)), (1, .int x1), (2, .int x2)] := hl
  have X : xX p s m args meth c cX9_steps 5 (some .int) RX9 w := X
  have hx := X.1
  have hb := X.2.1
  have hown := X.2.2.2.2.2.1
  have hts := X.2.2.2.2.2.2.1
  rw [fX9_steps_s] at hm
  refine lv_aload_n hx hb dX9_steps_0 rfl (lv_at hl 0 rfl) ?_
  refine lv_iload_n hx hb dX9_steps_1 rfl (lv_at hl 1 rfl) ?_
  obtain ⟨v4, hg, hm⟩ := xbnd hm
  refine xcallV xm_X9_78 xt_X9_isPlace X hP hS (qX9_isPlace l w x1 M0 v4 hg) xy37 rfl ⟨Nat.le_of_ble_eq_true rfl, Nat.le_of_ble_eq_true rfl⟩ ⟨rfl, rfl⟩ hl.1 rfl (rest := []) rfl (Nat.le_of_ble_eq_true rfl) dX9_steps_2 ⟨Nat.zero_le _, Nat.zero_le _⟩ (fun H locs hP hS => ?_)
  refine W.eq (g2 := F0 m 5 ls [.int v4]) rfl ?_
  refine lv_if_eq (tgt := 19) hx hb dX9_steps_5 (by decide) (fun c5 => ?_) (fun c5 => ?_)
  · have hm := xift c5 hm
    refine lv_iconst (v := (-1)) hx hb dX9_steps_19 (by decide) ?_
    obtain rfl := Option.some.inj hm
    exact xiret X hP hS dX9_steps_20
  · have hm := xiff c5 hm
    refine lv_iload_n hx hb dX9_steps_8 rfl (lv_at hl 2 rfl) ?_
    refine lv_iconst (v := 1) hx hb dX9_steps_9 (by decide) ?_
    refine lv_icmp_lt (tgt := 19) hx hb dX9_steps_10 (by decide) (fun c6 => ?_) (fun c6 => ?_)
    · have hm := xift c6 hm
      refine lv_iconst (v := (-1)) hx hb dX9_steps_19 (by decide) ?_
      obtain rfl := Option.some.inj hm
      exact xiret X hP hS dX9_steps_20
    · have hm := xiff c6 hm
      refine lv_iload_n hx hb dX9_steps_13 rfl (lv_at hl 2 rfl) ?_
      refine lv_bipush (v := 64) hx hb dX9_steps_14 (by decide) ?_
      refine lv_icmp_le (tgt := 21) hx hb dX9_steps_16 (by decide) (fun c7 => ?_) (fun c7 => ?_)
      · have hm := xift c7 hm
        refine lv_aload_n hx hb dX9_steps_21 rfl (lv_at hl 0 rfl) ?_
        refine xget xcX9 X hP 37 8 xy37 (by decide) xf_X9_29 rfl dX9_steps_22 ?_
        refine lv_iload_n hx hb dX9_steps_25 rfl (lv_at hl 1 rfl) ?_
        obtain ⟨hi8, hm⟩ := xifn hm
        refine xiald X hP 44 xy44 hi8 dX9_steps_26 ?_
        refine lv_istore_n (lv' := [(3, .int (M0 44 x1.toNatClampNeg)), (0, .ref (xa w 37)), (1, .int x1), (2, .int x2)]) hx hb dX9_steps_27 rfl hl (by decide) rfl (fun ls hl => ?_)
        refine lv_iconst (v := 0) hx hb dX9_steps_28 (by decide) ?_
        refine lv_istore (lv' := [(4, .int 0), (3, .int (M0 44 x1.toNatClampNeg)), (0, .ref (xa w 37)), (1, .int x1), (2, .int x2)]) hx hb dX9_steps_29 hl (by decide) rfl (fun ls hl => ?_)
        exact kX9_steps_31 X V  4096 x2 (M0 44 x1.toNatClampNeg) 0 M0 _ _ _ hm hP hS (lv_sub hl [2, 4, 1, 0] rfl)
      · have hm := xiff c7 hm
        refine lv_iconst (v := (-1)) hx hb dX9_steps_19 (by decide) ?_
        obtain rfl := Option.some.inj hm
        exact xiret X hP hS dX9_steps_20
