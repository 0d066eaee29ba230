def fL_law_827 (xs : Nat → Int32) (L : Nat) (k18 : Int32 → xM → Option (Int32)) (x3 : Int32) (M : xM) : Option (Int32) := k18 (x3 + 6) M
theorem fL_law_827_s (xs : Nat → Int32) (L : Nat) (k18 : Int32 → xM → Option (Int32)) (x3 : Int32) (M : xM) : fL_law_827 xs L k18 x3 M = (k18 (x3 + 6) M) := rfl
set_option maxHeartbeats 4000000 in
set_option maxRecDepth 100000 in
theorem kL_law_827 {p : Program} {l : Launch} {e : Env} {s : State} {m : MethodId} {below : List Frame} {meth : Method} {c : Code} {w : xT} {b L : Nat} {xs : Nat → Int32} (X : xX p s m #[Value.ref b] meth c cL_law 4 ret RL w) (hX : va_X b L xs s s.heap) (hbl : b < s.heap.size) (hbA : ¬ xA w b) (hz : w.2.2.2.2 = s.heap.size) (V : Int32) (hV : V = 1) (k18 : Int32 → xM → Option (Int32)) (hk18 : ∀ (x3 : Int32) (M : xM) (H : Heap) (locs : List Loc) (ls : Array Slot), k18 x3 M = some V → xP w M H → xS w s H locs → lv_has ls 4 [(0, .ref b), (1, .ref (xa w 0)), (2, .ref (xa w 37)), (3, .int x3)] → W p l e room_1 s m #[Value.ref b] below meth c H locs 50 183321 (lw_Z below #[Value.ref b] s) (F0 m 18 ls [])) : ∀ (x3 : Int32) (M : xM) (H : Heap) (locs : List Loc) (ls : Array Slot), fL_law_827 xs L k18 x3 M = some V → xP w M H → xS w s H locs → lv_has ls 4 [(0, .ref b), (1, .ref (xa w 0)), (2, .ref (xa w 37)), (3, .int x3)] → W p l e room_1 s m #[Value.ref b] below meth c H locs 50 183321 (lw_Z below #[Value.ref b] s) (F0 m 827 ls []) := by
  have hx := X.1
  have hb := X.2.1
  have hown := X.2.2.2.2.2.1
  have hts := X.2.2.2.2.2.2.1
  intro x3 M H locs ls hm hP hS hl
  rw [fL_law_827_s] at hm
  refine lv_iinc (v := x3 + 6) (lv' := [(3, .int (x3 + 6)), (0, .ref b), (1, .ref (xa w 0)), (2, .ref (xa w 37))]) hx hb dL_law_827 hl (k := 3) rfl rfl (by decide) rfl (fun ls hl => ?_)
  refine lv_goto (tgt := 18) hx hb dL_law_830 (by decide) ?_
  exact hk18 (x3 + 6) M _ _ _ hm hP hS (lv_sub hl [1, 2, 3, 0] rfl)
def fL_law_18 (xs : Nat → Int32) (L : Nat)  : Nat → Int32 → xM → Option (Int32)
  | 0 => fun _ _ => none
  | n + 1 => fun x3 M => if ((Int32.ofNat L) - 6) < x3 then (some 1) else (if xin x3 L then xlt ((xs x3.toNatClampNeg) &&& 31) fun y3 => if y3 = 0 then (if xin (x3 + 1) L then if xin (x3 + 2) L then if xin (x3 + 3) L then if xin (x3 + 4) L then if xin (x3 + 5) L then (fX8_add (xs (x3 + 1).toNatClampNeg) (xs (x3 + 2).toNatClampNeg) (xs (x3 + 3).toNatClampNeg) (xs (x3 + 4).toNatClampNeg) (xs (x3 + 5).toNatClampNeg) M).bind fun v10 => if xin (x3 + 1) L then if xin (x3 + 2) L then if xin (x3 + 3) L then if xin (x3 + 4) L then if xin (x3 + 5) L then (fX9_add (xs (x3 + 1).toNatClampNeg) (xs (x3 + 2).toNatClampNeg) (xs (x3 + 3).toNatClampNeg) (xs (x3 + 4).toNatClampNeg) (xs (x3 + 5).toNatClampNeg) v10.2).bind fun v16 => if v10.1 = v16.1 then (fL_law_827 xs L (fL_law_18 xs L n) x3 v16.2) else (some 0) else none else none else none else none else none else none else none else none else none else none) else if y3 = 1 then (if xin (x3 + 1) L then if xin (x3 + 2) L then (fX8_cut (xs (x3 + 1).toNatClampNeg) (xs (x3 + 2).toNatClampNeg) M).bind fun v21 => if xin (x3 + 1) L then if xin (x3 + 2) L then (fX9_cut (xs (x3 + 1).toNatClampNeg) (xs (x3 + 2).toNatClampNeg) v21.2).bind fun v24 => if v21.1 = v24.1 then (fL_law_827 xs L (fL_law_18 xs L n) x3 v24.2) else (some 0) else none else none else none else none) else if y3 = 2 then ((fX8_build  M).bind fun v27 => (fX9_build  v27.2).bind fun v28 => if v27.1 = v28.1 then (fL_law_827 xs L (fL_law_18 xs L n) x3 v28.2) else (some 0)) else if y3 = 3 then (if xin (x3 + 1) L then (fX8_sign (xs (x3 + 1).toNatClampNeg) M).bind fun v32 => if xin (x3 + 1) L then (fX9_sign (xs (x3 + 1).toNatClampNeg) M).bind fun v34 => if v32 = v34 then (fL_law_827 xs L (fL_law_18 xs L n) x3 M) else (some 0) else none else none) else if y3 = 4 then (if xin (x3 + 1) L then if xin (x3 + 2) L then (fX8_text (xs (x3 + 1).toNatClampNeg) (xs (x3 + 2).toNatClampNeg) M).bind fun v39 => if xin (x3 + 1) L then if xin (x3 + 2) L then (fX9_text (xs (x3 + 1).toNatClampNeg) (xs (x3 + 2).toNatClampNeg) M).bind fun v42 => if v39 = v42 then (fL_law_827 xs L (fL_law_18 xs L n) x3 M) else (some 0) else none else none else none else none) else if y3 = 5 then (if xin (x3 + 1) L then (fX8_at (xs (x3 + 1).toNatClampNeg) M).bind fun v46 => if xin (x3 + 1) L then (fX9_at (xs (x3 + 1).toNatClampNeg) M).bind fun v48 => if v46 = v48 then (fL_law_827 xs L (fL_law_18 xs L n) x3 M) else (some 0) else none else none) else if y3 = 6 then (if xin (x3 + 1) L then (fX8_rank (xs (x3 + 1).toNatClampNeg) M).bind fun v52 => if xin (x3 + 1) L then (fX9_rank (xs (x3 + 1).toNatClampNeg) M).bind fun v54 => if v52 = v54 then (fL_law_827 xs L (fL_law_18 xs L n) x3 M) else (some 0) else none else none) else if y3 = 7 then (if xin (x3 + 1) L then (fX8_beside (xs (x3 + 1).toNatClampNeg) M).bind fun v58 => if xin (x3 + 1) L then (fX9_beside (xs (x3 + 1).toNatClampNeg) M).bind fun v60 => if v58 = v60 then (fL_law_827 xs L (fL_law_18 xs L n) x3 M) else (some 0) else none else none) else if y3 = 8 then (if xin (x3 + 1) L then if xin (x3 + 2) L then (fX8_common (xs (x3 + 1).toNatClampNeg) (xs (x3 + 2).toNatClampNeg) M).bind fun v65 => if xin (x3 + 1) L then if xin (x3 + 2) L then (fX9_common (xs (x3 + 1).toNatClampNeg) (xs (x3 + 2).toNatClampNeg) M).bind fun v68 => if v65 = v68 then (fL_law_827 xs L (fL_law_18 xs L n) x3 M) else (some 0) else none else none else none else none) else if y3 = 9 then (if xin (x3 + 1) L then if xin (x3 + 2) L then (fX8_copy (xs (x3 + 1).toNatClampNeg) (xs (x3 + 2).toNatClampNeg) M).bind fun v73 => if xin (x3 + 1) L then if xin (x3 + 2) L then (fX9_copy (xs (x3 + 1).toNatClampNeg) (xs (x3 + 2).toNatClampNeg) M).bind fun v76 => if v73 = v76 then (fL_law_827 xs L (fL_law_18 xs L n) x3 M) else (some 0) else none else none else none else none) else if y3 = 10 then (if xin (x3 + 1) L then if xin (x3 + 2) L then if xin (x3 + 3) L then if xin (x3 + 4) L then (fX8_pattern (xs (x3 + 1).toNatClampNeg) (xs (x3 + 2).toNatClampNeg) (xs (x3 + 3).toNatClampNeg) (xs (x3 + 4).toNatClampNeg) M).bind fun v83 => if xin (x3 + 1) L then if xin (x3 + 2) L then if xin (x3 + 3) L then if xin (x3 + 4) L then (fX9_pattern (xs (x3 + 1).toNatClampNeg) (xs (x3 + 2).toNatClampNeg) (xs (x3 + 3).toNatClampNeg) (xs (x3 + 4).toNatClampNeg) v83.2).bind fun v88 => if v83.1 = v88.1 then (fL_law_827 xs L (fL_law_18 xs L n) x3 v88.2) else (some 0) else none else none else none else none else none else none else none else none) else if y3 = 11 then ((fX8_wipe  M).bind fun v91 => (fX9_wipe  v91.2).bind fun v92 => if v91.1 = v92.1 then (fL_law_827 xs L (fL_law_18 xs L n) x3 v92.2) else (some 0)) else if y3 = 12 then (if xin (x3 + 1) L then (fX8_find (xs (x3 + 1).toNatClampNeg) M).bind fun v96 => if xin (x3 + 1) L then (fX9_find (xs (x3 + 1).toNatClampNeg) M).bind fun v98 => if v96 = v98 then (fL_law_827 xs L (fL_law_18 xs L n) x3 M) else (some 0) else none else none) else if y3 = 13 then (if xin (x3 + 1) L then (fX8_where (xs (x3 + 1).toNatClampNeg) M).bind fun v102 => if xin (x3 + 1) L then (fX9_where (xs (x3 + 1).toNatClampNeg) M).bind fun v104 => if v102 = v104 then (fL_law_827 xs L (fL_law_18 xs L n) x3 M) else (some 0) else none else none) else if y3 = 14 then ((fX8_different  M).bind fun v107 => (fX9_different  M).bind fun v108 => if (lg_cmp v107 v108) = 0 then (fL_law_827 xs L (fL_law_18 xs L n) x3 M) else (some 0)) else if y3 = 15 then (if xin (x3 + 1) L then if xin (x3 + 2) L then (fX8_repeats (xs (x3 + 1).toNatClampNeg) (xs (x3 + 2).toNatClampNeg) M).bind fun v113 => if xin (x3 + 1) L then if xin (x3 + 2) L then (fX9_repeats (xs (x3 + 1).toNatClampNeg) (xs (x3 + 2).toNatClampNeg) M).bind fun v116 => if v113 = v116 then (fL_law_827 xs L (fL_law_18 xs L n) x3 M) else (some 0) else none else none else none else none) else if y3 = 16 then (if xin (x3 + 1) L then if xin (x3 + 2) L then (fX8_longest (xs (x3 + 1).toNatClampNeg) (xs (x3 + 2).toNatClampNeg) M).bind fun v121 => if xin (x3 + 1) L then if xin (x3 + 2) L then (fX9_longest (xs (x3 + 1).toNatClampNeg) (xs (x3 + 2).toNatClampNeg) M).bind fun v124 => if v121 = v124 then (fL_law_827 xs L (fL_law_18 xs L n) x3 M) else (some 0) else none else none else none else none) else if y3 = 17 then (if xin (x3 + 1) L then if xin (x3 + 2) L then (fX8_shared (xs (x3 + 1).toNatClampNeg) (xs (x3 + 2).toNatClampNeg) M).bind fun v129 => if xin (x3 + 1) L then if xin (x3 + 2) L then (fX9_shared (xs (x3 + 1).toNatClampNeg) (xs (x3 + 2).toNatClampNeg) M).bind fun v132 => if v129 = v132.1 then (fL_law_827 xs L (fL_law_18 xs L n) x3 v132.2) else (some 0) else none else none else none else none) else if y3 = 18 then (if xin (x3 + 1) L then (fX8_before (xs (x3 + 1).toNatClampNeg) M).bind fun v136 => if xin (x3 + 1) L then (fX9_before (xs (x3 + 1).toNatClampNeg) M).bind fun v138 => if v136 = v138 then (fL_law_827 xs L (fL_law_18 xs L n) x3 M) else (some 0) else none else none) else if y3 = 19 then (if xin (x3 + 1) L then (fX8_back (xs (x3 + 1).toNatClampNeg) M).bind fun v142 => if xin (x3 + 1) L then (fX9_back (xs (x3 + 1).toNatClampNeg) M).bind fun v144 => if v142 = v144 then (fL_law_827 xs L (fL_law_18 xs L n) x3 M) else (some 0) else none else none) else if y3 = 20 then (if xin (x3 + 1) L then if xin (x3 + 2) L then (fX8_steps (xs (x3 + 1).toNatClampNeg) (xs (x3 + 2).toNatClampNeg) M).bind fun v149 => if xin (x3 + 1) L then if xin (x3 + 2) L then (fX9_steps (xs (x3 + 1).toNatClampNeg) (xs (x3 + 2).toNatClampNeg) M).bind fun v152 => if v149 = v152 then (fL_law_827 xs L (fL_law_18 xs L n) x3 M) else (some 0) else none else none else none else none) else if y3 = 21 then (if xin (x3 + 1) L then if xin (x3 + 2) L then (fX8_swap (xs (x3 + 1).toNatClampNeg) (xs (x3 + 2).toNatClampNeg) M).bind fun v157 => if xin (x3 + 1) L then if xin (x3 + 2) L then (fX9_swap (xs (x3 + 1).toNatClampNeg) (xs (x3 + 2).toNatClampNeg) v157.2).bind fun v160 => if v157.1 = v160.1 then (fL_law_827 xs L (fL_law_18 xs L n) x3 v160.2) else (some 0) else none else none else none else none) else if y3 = 22 then (if xin (x3 + 1) L then if xin (x3 + 2) L then (fX8_tell (xs (x3 + 1).toNatClampNeg) (xs (x3 + 2).toNatClampNeg) M).bind fun v165 => if xin (x3 + 1) L then if xin (x3 + 2) L then (fX9_tell (xs (x3 + 1).toNatClampNeg) (xs (x3 + 2).toNatClampNeg) v165.2).bind fun v168 => if v165.1 = v168.1 then (fL_law_827 xs L (fL_law_18 xs L n) x3 v168.2) else (some 0) else none else none else none else none) else if y3 = 23 then ((fX8_judge  M).bind fun v171 => (fX9_judge  M).bind fun v172 => if v171 = v172.1 then (fL_law_827 xs L (fL_law_18 xs L n) x3 v172.2) else (some 0)) else (fL_law_827 xs L (fL_law_18 xs L n) x3 M) else none)
theorem fL_law_18_s (xs : Nat → Int32) (L : Nat)  (n : Nat) (x3 : Int32) (M : xM) : fL_law_18 xs L  (n + 1) x3 M = (if ((Int32.ofNat L) - 6) < x3 then (some 1) else (if xin x3 L then xlt ((xs x3.toNatClampNeg) &&& 31) fun y3 => if y3 = 0 then (if xin (x3 + 1) L then if xin (x3 + 2) L then if xin (x3 + 3) L then if xin (x3 + 4) L then if xin (x3 + 5) L then (fX8_add (xs (x3 + 1).toNatClampNeg) (xs (x3 + 2).toNatClampNeg) (xs (x3 + 3).toNatClampNeg) (xs (x3 + 4).toNatClampNeg) (xs (x3 + 5).toNatClampNeg) M).bind fun v10 => if xin (x3 + 1) L then if xin (x3 + 2) L then if xin (x3 + 3) L then if xin (x3 + 4) L then if xin (x3 + 5) L then (fX9_add (xs (x3 + 1).toNatClampNeg) (xs (x3 + 2).toNatClampNeg) (xs (x3 + 3).toNatClampNeg) (xs (x3 + 4).toNatClampNeg) (xs (x3 + 5).toNatClampNeg) v10.2).bind fun v16 => if v10.1 = v16.1 then (fL_law_827 xs L (fL_law_18 xs L n) x3 v16.2) else (some 0) else none else none else none else none else none else none else none else none else none else none) else if y3 = 1 then (if xin (x3 + 1) L then if xin (x3 + 2) L then (fX8_cut (xs (x3 + 1).toNatClampNeg) (xs (x3 + 2).toNatClampNeg) M).bind fun v21 => if xin (x3 + 1) L then if xin (x3 + 2) L then (fX9_cut (xs (x3 + 1).toNatClampNeg) (xs (x3 + 2).toNatClampNeg) v21.2).bind fun v24 => if v21.1 = v24.1 then (fL_law_827 xs L (fL_law_18 xs L n) x3 v24.2) else (some 0) else none else none else none else none) else if y3 = 2 then ((fX8_build  M).bind fun v27 => (fX9_build  v27.2).bind fun v28 => if v27.1 = v28.1 then (fL_law_827 xs L (fL_law_18 xs L n) x3 v28.2) else (some 0)) else if y3 = 3 then (if xin (x3 + 1) L then (fX8_sign (xs (x3 + 1).toNatClampNeg) M).bind fun v32 => if xin (x3 + 1) L then (fX9_sign (xs (x3 + 1).toNatClampNeg) M).bind fun v34 => if v32 = v34 then (fL_law_827 xs L (fL_law_18 xs L n) x3 M) else (some 0) else none else none) else if y3 = 4 then (if xin (x3 + 1) L then if xin (x3 + 2) L then (fX8_text (xs (x3 + 1).toNatClampNeg) (xs (x3 + 2).toNatClampNeg) M).bind fun v39 => if xin (x3 + 1) L then if xin (x3 + 2) L then (fX9_text (xs (x3 + 1).toNatClampNeg) (xs (x3 + 2).toNatClampNeg) M).bind fun v42 => if v39 = v42 then (fL_law_827 xs L (fL_law_18 xs L n) x3 M) else (some 0) else none else none else none else none) else if y3 = 5 then (if xin (x3 + 1) L then (fX8_at (xs (x3 + 1).toNatClampNeg) M).bind fun v46 => if xin (x3 + 1) L then (fX9_at (xs (x3 + 1).toNatClampNeg) M).bind fun v48 => if v46 = v48 then (fL_law_827 xs L (fL_law_18 xs L n) x3 M) else (some 0) else none else none) else if y3 = 6 then (if xin (x3 + 1) L then (fX8_rank (xs (x3 + 1).toNatClampNeg) M).bind fun v52 => if xin (x3 + 1) L then (fX9_rank (xs (x3 + 1).toNatClampNeg) M).bind fun v54 => if v52 = v54 then (fL_law_827 xs L (fL_law_18 xs L n) x3 M) else (some 0) else none else none) else if y3 = 7 then (if xin (x3 + 1) L then (fX8_beside (xs (x3 + 1).toNatClampNeg) M).bind fun v58 => if xin (x3 + 1) L then (fX9_beside (xs (x3 + 1).toNatClampNeg) M).bind fun v60 => if v58 = v60 then (fL_law_827 xs L (fL_law_18 xs L n) x3 M) else (some 0) else none else none) else if y3 = 8 then (if xin (x3 + 1) L then if xin (x3 + 2) L then (fX8_common (xs (x3 + 1).toNatClampNeg) (xs (x3 + 2).toNatClampNeg) M).bind fun v65 => if xin (x3 + 1) L then if xin (x3 + 2) L then (fX9_common (xs (x3 + 1).toNatClampNeg) (xs (x3 + 2).toNatClampNeg) M).bind fun v68 => if v65 = v68 then (fL_law_827 xs L (fL_law_18 xs L n) x3 M) else (some 0) else none else none else none else none) else if y3 = 9 then (if xin (x3 + 1) L then if xin (x3 + 2) L then (fX8_copy (xs (x3 + 1).toNatClampNeg) (xs (x3 + 2).toNatClampNeg) M).bind fun v73 => if xin (x3 + 1) L then if xin (x3 + 2) L then (fX9_copy (xs (x3 + 1).toNatClampNeg) (xs (x3 + 2).toNatClampNeg) M).bind fun v76 => if v73 = v76 then (fL_law_827 xs L (fL_law_18 xs L n) x3 M) else (some 0) else none else none else none else none) else if y3 = 10 then (if xin (x3 + 1) L then if xin (x3 + 2) L then if xin (x3 + 3) L then if xin (x3 + 4) L then (fX8_pattern (xs (x3 + 1).toNatClampNeg) (xs (x3 + 2).toNatClampNeg) (xs (x3 + 3).toNatClampNeg) (xs (x3 + 4).toNatClampNeg) M).bind fun v83 => if xin (x3 + 1) L then if xin (x3 + 2) L then if xin (x3 + 3) L then if xin (x3 + 4) L then (fX9_pattern (xs (x3 + 1).toNatClampNeg) (xs (x3 + 2).toNatClampNeg) (xs (x3 + 3).toNatClampNeg) (xs (x3 + 4).toNatClampNeg) v83.2).bind fun v88 => if v83.1 = v88.1 then (fL_law_827 xs L (fL_law_18 xs L n) x3 v88.2) else (some 0) else none else none else none else none else none else none else none else none) else if y3 = 11 then ((fX8_wipe  M).bind fun v91 => (fX9_wipe  v91.2).bind fun v92 => if v91.1 = v92.1 then (fL_law_827 xs L (fL_law_18 xs L n) x3 v92.2) else (some 0)) else if y3 = 12 then (if xin (x3 + 1) L then (fX8_find (xs (x3 + 1).toNatClampNeg) M).bind fun v96 => if xin (x3 + 1) L then (fX9_find (xs (x3 + 1).toNatClampNeg) M).bind fun v98 => if v96 = v98 then (fL_law_827 xs L (fL_law_18 xs L n) x3 M) else (some 0) else none else none) else if y3 = 13 then (if xin (x3 + 1) L then (fX8_where (xs (x3 + 1).toNatClampNeg) M).bind fun v102 => if xin (x3 + 1) L then (fX9_where (xs (x3 + 1).toNatClampNeg) M).bind fun v104 => if v102 = v104 then (fL_law_827 xs L (fL_law_18 xs L n) x3 M) else (some 0) else none else none) else if y3 = 14 then ((fX8_different  M).bind fun v107 => (fX9_different  M).bind fun v108 => if (lg_cmp v107 v108) = 0 then (fL_law_827 xs L (fL_law_18 xs L n) x3 M) else (some 0)) else if y3 = 15 then (if xin (x3 + 1) L then if xin (x3 + 2) L then (fX8_repeats (xs (x3 + 1).toNatClampNeg) (xs (x3 + 2).toNatClampNeg) M).bind fun v113 => if xin (x3 + 1) L then if xin (x3 + 2) L then (fX9_repeats (xs (x3 + 1).toNatClampNeg) (xs (x3 + 2).toNatClampNeg) M).bind fun v116 => if v113 = v116 then (fL_law_827 xs L (fL_law_18 xs L n) x3 M) else (some 0) else none else none else none else none) else if y3 = 16 then (if xin (x3 + 1) L then if xin (x3 + 2) L then (fX8_longest (xs (x3 + 1).toNatClampNeg) (xs (x3 + 2).toNatClampNeg) M).bind fun v121 => if xin (x3 + 1) L then if xin (x3 + 2) L then (fX9_longest (xs (x3 + 1).toNatClampNeg) (xs (x3 + 2).toNatClampNeg) M).bind fun v124 => if v121 = v124 then (fL_law_827 xs L (fL_law_18 xs L n) x3 M) else (some 0) else none else none else none else none) else if y3 = 17 then (if xin (x3 + 1) L then if xin (x3 + 2) L then (fX8_shared (xs (x3 + 1).toNatClampNeg) (xs (x3 + 2).toNatClampNeg) M).bind fun v129 => if xin (x3 + 1) L then if xin (x3 + 2) L then (fX9_shared (xs (x3 + 1).toNatClampNeg) (xs (x3 + 2).toNatClampNeg) M).bind fun v132 => if v129 = v132.1 then (fL_law_827 xs L (fL_law_18 xs L n) x3 v132.2) else (some 0) else none else none else none else none) else if y3 = 18 then (if xin (x3 + 1) L then (fX8_before (xs (x3 + 1).toNatClampNeg) M).bind fun v136 => if xin (x3 + 1) L then (fX9_before (xs (x3 + 1).toNatClampNeg) M).bind fun v138 => if v136 = v138 then (fL_law_827 xs L (fL_law_18 xs L n) x3 M) else (some 0) else none else none) else if y3 = 19 then (if xin (x3 + 1) L then (fX8_back (xs (x3 + 1).toNatClampNeg) M).bind fun v142 => if xin (x3 + 1) L then (fX9_back (xs (x3 + 1).toNatClampNeg) M).bind fun v144 => if v142 = v144 then (fL_law_827 xs L (fL_law_18 xs L n) x3 M) else (some 0) else none else none) else if y3 = 20 then (if xin (x3 + 1) L then if xin (x3 + 2) L then (fX8_steps (xs (x3 + 1).toNatClampNeg) (xs (x3 + 2).toNatClampNeg) M).bind fun v149 => if xin (x3 + 1) L then if xin (x3 + 2) L then (fX9_steps (xs (x3 + 1).toNatClampNeg) (xs (x3 + 2).toNatClampNeg) M).bind fun v152 => if v149 = v152 then (fL_law_827 xs L (fL_law_18 xs L n) x3 M) else (some 0) else none else none else none else none) else if y3 = 21 then (if xin (x3 + 1) L then if xin (x3 + 2) L then (fX8_swap (xs (x3 + 1).toNatClampNeg) (xs (x3 + 2).toNatClampNeg) M).bind fun v157 => if xin (x3 + 1) L then if xin (x3 + 2) L then (fX9_swap (xs (x3 + 1).toNatClampNeg) (xs (x3 + 2).toNatClampNeg) v157.2).bind fun v160 => if v157.1 = v160.1 then (fL_law_827 xs L (fL_law_18 xs L n) x3 v160.2) else (some 0) else none else none else none else none) else if y3 = 22 then (if xin (x3 + 1) L then if xin (x3 + 2) L then (fX8_tell (xs (x3 + 1).toNatClampNeg) (xs (x3 + 2).toNatClampNeg) M).bind fun v165 => if xin (x3 + 1) L then if xin (x3 + 2) L then (fX9_tell (xs (x3 + 1).toNatClampNeg) (xs (x3 + 2).toNatClampNeg) v165.2).bind fun v168 => if v165.1 = v168.1 then (fL_law_827 xs L (fL_law_18 xs L n) x3 v168.2) else (some 0) else none else none else none else none) else if y3 = 23 then ((fX8_judge  M).bind fun v171 => (fX9_judge  M).bind fun v172 => if v171 = v172.1 then (fL_law_827 xs L (fL_law_18 xs L n) x3 v172.2) else (some 0)) else (fL_law_827 xs L (fL_law_18 xs L n) x3 M) else none)) := rfl
set_option maxHeartbeats 4000000 in
set_option maxRecDepth 100000 in
theorem kL_law_18 {p : Program} {l : Launch} {e : Env} {s : State} {m : MethodId} {below : List Frame} {meth : Method} {c : Code} {w : xT} {b L : Nat} {xs : Nat → Int32} (X : xX p s m #[Value.ref b] meth c cL_law 4 ret RL w) (hX : va_X b L xs s s.heap) (hbl : b < s.heap.size) (hbA : ¬ xA w b) (hz : w.2.2.2.2 = s.heap.size) (V : Int32) (hV : V = 1)  : ∀ (n : Nat) (x3 : Int32) (M : xM) (H : Heap) (locs : List Loc) (ls : Array Slot), fL_law_18 xs L  n x3 M = some V → xP w M H → xS w s H locs → lv_has ls 4 [(0, .ref b), (1, .ref (xa w 0)), (2, .ref (xa w 37)), (3, .int x3)] → W p l e room_1 s m #[Value.ref b] below meth c H locs 50 183321 (lw_Z below #[Value.ref b] s) (F0 m 18 ls []) := by
  have hx := X.1
  have hb := X.2.1
  have hown := X.2.2.2.2.2.1
  have hts := X.2.2.2.2.2.2.1
  intro n
  induction n with
  | zero => intro x3 M H locs ls hm hP hS hl; exact xnon hm
  | succ n ih =>
    intro x3 M H locs ls hm hP hS hl
    rw [fL_law_18_s] at hm
    refine lv_iload_n hx hb dL_law_18 rfl (lv_at hl 3 rfl) ?_
    refine lv_aload_n hx hb dL_law_19 rfl (lv_at hl 0 rfl) ?_
    refine va_slen hx hb hX hbl hbA hS dL_law_20 ?_
    refine lv_bipush (v := 6) hx hb dL_law_21 (by decide) ?_
    refine lv_isub hx hb dL_law_23 ?_
    refine lv_icmp_gt (tgt := 833) hx hb dL_law_24 (by decide) (fun c1 => ?_) (fun c1 => ?_)
    · have hm := xift c1 hm
      refine lv_iconst (v := 1) hx hb dL_law_833 (by decide) ?_
      obtain rfl := Option.some.inj hm
      exact lw_fin X hz hS dL_law_834
    · have hm := xiff c1 hm
      refine lv_aload_n hx hb dL_law_27 rfl (lv_at hl 0 rfl) ?_
      refine lv_iload_n hx hb dL_law_28 rfl (lv_at hl 3 rfl) ?_
      obtain ⟨hi2, hm⟩ := xifn hm
      refine va_sld hx hb hX hbl hbA hS hi2 dL_law_29 ?_
      refine lv_bipush (v := 31) hx hb dL_law_30 (by decide) ?_
      refine lv_iand hx hb dL_law_32 ?_
      refine lv_topi (fun y3 ey3 => ?_)
      have hm := xltE hm ey3
      by_cases c4 : y3 = 0
      · have hm := xift c4 hm
        refine lv_tableIn (tgt := 144) (off := 111) hx hb dL_law_33 (by rw [c4]; decide) (by rw [c4]; decide) (by rw [c4]; rfl) (by decide) ?_
        refine lv_aload_n hx hb dL_law_144 rfl (lv_at hl 1 rfl) ?_
        refine lv_aload_n hx hb dL_law_145 rfl (lv_at hl 0 rfl) ?_
        refine lv_iload_n hx hb dL_law_146 rfl (lv_at hl 3 rfl) ?_
        refine lv_iconst (v := 1) hx hb dL_law_147 (by decide) ?_
        refine lv_iadd hx hb dL_law_148 ?_
        obtain ⟨hi5, hm⟩ := xifn hm
        refine va_sld hx hb hX hbl hbA hS hi5 dL_law_149 ?_
        refine lv_aload_n hx hb dL_law_150 rfl (lv_at hl 0 rfl) ?_
        refine lv_iload_n hx hb dL_law_151 rfl (lv_at hl 3 rfl) ?_
        refine lv_iconst (v := 2) hx hb dL_law_152 (by decide) ?_
        refine lv_iadd hx hb dL_law_153 ?_
        obtain ⟨hi6, hm⟩ := xifn hm
        refine va_sld hx hb hX hbl hbA hS hi6 dL_law_154 ?_
        refine lv_aload_n hx hb dL_law_155 rfl (lv_at hl 0 rfl) ?_
        refine lv_iload_n hx hb dL_law_156 rfl (lv_at hl 3 rfl) ?_
        refine lv_iconst (v := 3) hx hb dL_law_157 (by decide) ?_
        refine lv_iadd hx hb dL_law_158 ?_
        obtain ⟨hi7, hm⟩ := xifn hm
        refine va_sld hx hb hX hbl hbA hS hi7 dL_law_159 ?_
        refine lv_aload_n hx hb dL_law_160 rfl (lv_at hl 0 rfl) ?_
        refine lv_iload_n hx hb dL_law_161 rfl (lv_at hl 3 rfl) ?_
        refine lv_iconst (v := 4) hx hb dL_law_162 (by decide) ?_
        refine lv_iadd hx hb dL_law_163 ?_
        obtain ⟨hi8, hm⟩ := xifn hm
        refine va_sld hx hb hX hbl hbA hS hi8 dL_law_164 ?_
        refine lv_aload_n hx hb dL_law_165 rfl (lv_at hl 0 rfl) ?_
        refine lv_iload_n hx hb dL_law_166 rfl (lv_at hl 3 rfl) ?_
        refine lv_iconst (v := 5) hx hb dL_law_167 (by decide) ?_
        refine lv_iadd hx hb dL_law_168 ?_
        obtain ⟨hi9, hm⟩ := xifn hm
        refine va_sld hx hb hX hbl hbA hS hi9 dL_law_169 ?_
        obtain ⟨v10, hg, hm⟩ := xbnd hm
        refine xcallV xm_L_13 xt_X8_add X hP hS (qX8_add l w (xs (x3 + 1).toNatClampNeg) (xs (x3 + 2).toNatClampNeg) (xs (x3 + 3).toNatClampNeg) (xs (x3 + 4).toNatClampNeg) (xs (x3 + 5).toNatClampNeg) M v10 hg) xy0 rfl ⟨Nat.le_of_ble_eq_true rfl, Nat.le_of_ble_eq_true rfl⟩ ⟨rfl, rfl⟩ hl.1 rfl (rest := []) rfl (Nat.le_of_ble_eq_true rfl) dL_law_170 ⟨Nat.le_of_ble_eq_true rfl, Nat.le_of_ble_eq_true rfl⟩ (fun H locs hP hS => ?_)
        refine W.eq (g2 := F0 m 173 ls [.int v10.1]) rfl ?_
        refine lv_aload_n hx hb dL_law_173 rfl (lv_at hl 2 rfl) ?_
        refine lv_aload_n hx hb dL_law_174 rfl (lv_at hl 0 rfl) ?_
        refine lv_iload_n hx hb dL_law_175 rfl (lv_at hl 3 rfl) ?_
        refine lv_iconst (v := 1) hx hb dL_law_176 (by decide) ?_
        refine lv_iadd hx hb dL_law_177 ?_
        obtain ⟨hi11, hm⟩ := xifn hm
        refine va_sld hx hb hX hbl hbA hS hi11 dL_law_178 ?_
        refine lv_aload_n hx hb dL_law_179 rfl (lv_at hl 0 rfl) ?_
        refine lv_iload_n hx hb dL_law_180 rfl (lv_at hl 3 rfl) ?_
        refine lv_iconst (v := 2) hx hb dL_law_181 (by decide) ?_
        refine lv_iadd hx hb dL_law_182 ?_
        obtain ⟨hi12, hm⟩ := xifn hm
        refine va_sld hx hb hX hbl hbA hS hi12 dL_law_183 ?_
        refine lv_aload_n hx hb dL_law_184 rfl (lv_at hl 0 rfl) ?_
        refine lv_iload_n hx hb dL_law_185 rfl (lv_at hl 3 rfl) ?_
        refine lv_iconst (v := 3) hx hb dL_law_186 (by decide) ?_
        refine lv_iadd hx hb dL_law_187 ?_
        obtain ⟨hi13, hm⟩ := xifn hm
        refine va_sld hx hb hX hbl hbA hS hi13 dL_law_188 ?_
        refine lv_aload_n hx hb dL_law_189 rfl (lv_at hl 0 rfl) ?_
        refine lv_iload_n hx hb dL_law_190 rfl (lv_at hl 3 rfl) ?_
        refine lv_iconst (v := 4) hx hb dL_law_191 (by decide) ?_
        refine lv_iadd hx hb dL_law_192 ?_
        obtain ⟨hi14, hm⟩ := xifn hm
        refine va_sld hx hb hX hbl hbA hS hi14 dL_law_193 ?_
        refine lv_aload_n hx hb dL_law_194 rfl (lv_at hl 0 rfl) ?_
        refine lv_iload_n hx hb dL_law_195 rfl (lv_at hl 3 rfl) ?_
        refine lv_iconst (v := 5) hx hb dL_law_196 (by decide) ?_
        refine lv_iadd hx hb dL_law_197 ?_
        obtain ⟨hi15, hm⟩ := xifn hm
        refine va_sld hx hb hX hbl hbA hS hi15 dL_law_198 ?_
        obtain ⟨v16, hg, hm⟩ := xbnd hm
        refine xcallV xm_L_17 xt_X9_add X hP hS (qX9_add l w (xs (x3 + 1).toNatClampNeg) (xs (x3 + 2).toNatClampNeg) (xs (x3 + 3).toNatClampNeg) (xs (x3 + 4).toNatClampNeg) (xs (x3 + 5).toNatClampNeg) v10.2 v16 hg) xy37 rfl ⟨Nat.le_of_ble_eq_true rfl, Nat.le_of_ble_eq_true rfl⟩ ⟨rfl, rfl⟩ hl.1 rfl (rest := [.int v10.1]) rfl (Nat.le_of_ble_eq_true rfl) dL_law_199 ⟨Nat.le_of_ble_eq_true rfl, Nat.le_of_ble_eq_true rfl⟩ (fun H locs hP hS => ?_)
        refine W.eq (g2 := F0 m 202 ls [.int v16.1, .int v10.1]) rfl ?_
        refine lv_icmp_eq (tgt := 827) hx hb dL_law_202 (by decide) (fun c17 => ?_) (fun c17 => ?_)
        · have hm := xift c17 hm
          exact kL_law_827 X hX hbl hbA hz V hV (fL_law_18 xs L n) ih x3 v16.2 _ _ _ hm hP hS (lv_sub hl [0, 1, 2, 3] rfl)
        · have hm := xiff c17 hm
          refine lv_iconst (v := 0) hx hb dL_law_205 (by decide) ?_
          obtain rfl := Option.some.inj hm
          exact absurd hV (by decide)
      have hm := xiff c4 hm
      by_cases c18 : y3 = 1
      · have hm := xift c18 hm
        refine lv_tableIn (tgt := 207) (off := 174) hx hb dL_law_33 (by rw [c18]; decide) (by rw [c18]; decide) (by rw [c18]; rfl) (by decide) ?_
        refine lv_aload_n hx hb dL_law_207 rfl (lv_at hl 1 rfl) ?_
        refine lv_aload_n hx hb dL_law_208 rfl (lv_at hl 0 rfl) ?_
        refine lv_iload_n hx hb dL_law_209 rfl (lv_at hl 3 rfl) ?_
        refine lv_iconst (v := 1) hx hb dL_law_210 (by decide) ?_
        refine lv_iadd hx hb dL_law_211 ?_
        obtain ⟨hi19, hm⟩ := xifn hm
        refine va_sld hx hb hX hbl hbA hS hi19 dL_law_212 ?_
        refine lv_aload_n hx hb dL_law_213 rfl (lv_at hl 0 rfl) ?_
        refine lv_iload_n hx hb dL_law_214 rfl (lv_at hl 3 rfl) ?_
        refine lv_iconst (v := 2) hx hb dL_law_215 (by decide) ?_
        refine lv_iadd hx hb dL_law_216 ?_
        obtain ⟨hi20, hm⟩ := xifn hm
        refine va_sld hx hb hX hbl hbA hS hi20 dL_law_217 ?_
        obtain ⟨v21, hg, hm⟩ := xbnd hm
        refine xcallV xm_L_18 xt_X8_cut X hP hS (qX8_cut l w (xs (x3 + 1).toNatClampNeg) (xs (x3 + 2).toNatClampNeg) M v21 hg) xy0 rfl ⟨Nat.le_of_ble_eq_true rfl, Nat.le_of_ble_eq_true rfl⟩ ⟨rfl, rfl⟩ hl.1 rfl (rest := []) rfl (Nat.le_of_ble_eq_true rfl) dL_law_218 ⟨Nat.le_of_ble_eq_true rfl, Nat.le_of_ble_eq_true rfl⟩ (fun H locs hP hS => ?_)
        refine W.eq (g2 := F0 m 221 ls [.int v21.1]) rfl ?_
        refine lv_aload_n hx hb dL_law_221 rfl (lv_at hl 2 rfl) ?_
        refine lv_aload_n hx hb dL_law_222 rfl (lv_at hl 0 rfl) ?_
        refine lv_iload_n hx hb dL_law_223 rfl (lv_at hl 3 rfl) ?_
        refine lv_iconst (v := 1) hx hb dL_law_224 (by decide) ?_
        refine lv_iadd hx hb dL_law_225 ?_
        obtain ⟨hi22, hm⟩ := xifn hm
        refine va_sld hx hb hX hbl hbA hS hi22 dL_law_226 ?_
        refine lv_aload_n hx hb dL_law_227 rfl (lv_at hl 0 rfl) ?_
        refine lv_iload_n hx hb dL_law_228 rfl (lv_at hl 3 rfl) ?_
        refine lv_iconst (v := 2) hx hb dL_law_229 (by decide) ?_
        refine lv_iadd hx hb dL_law_230 ?_
        obtain ⟨hi23, hm⟩ := xifn hm
        refine va_sld hx hb hX hbl hbA hS hi23 dL_law_231 ?_
        obtain ⟨v24, hg, hm⟩ := xbnd hm
        refine xcallV xm_L_22 xt_X9_cut X hP hS (qX9_cut l w (xs (x3 + 1).toNatClampNeg) (xs (x3 + 2).toNatClampNeg) v21.2 v24 hg) xy37 rfl ⟨Nat.le_of_ble_eq_true rfl, Nat.le_of_ble_eq_true rfl⟩ ⟨rfl, rfl⟩ hl.1 rfl (rest := [.int v21.1]) rfl (Nat.le_of_ble_eq_true rfl) dL_law_232 ⟨Nat.le_of_ble_eq_true rfl, Nat.le_of_ble_eq_true rfl⟩ (fun H locs hP hS => ?_)
        refine W.eq (g2 := F0 m 235 ls [.int v24.1, .int v21.1]) rfl ?_
        refine lv_icmp_eq (tgt := 827) hx hb dL_law_235 (by decide) (fun c25 => ?_) (fun c25 => ?_)
        · have hm := xift c25 hm
          exact kL_law_827 X hX hbl hbA hz V hV (fL_law_18 xs L n) ih x3 v24.2 _ _ _ hm hP hS (lv_sub hl [0, 1, 2, 3] rfl)
        · have hm := xiff c25 hm
          refine lv_iconst (v := 0) hx hb dL_law_238 (by decide) ?_
          obtain rfl := Option.some.inj hm
          exact absurd hV (by decide)
      have hm := xiff c18 hm
      by_cases c26 : y3 = 2
      · have hm := xift c26 hm
        refine lv_tableIn (tgt := 240) (off := 207) hx hb dL_law_33 (by rw [c26]; decide) (by rw [c26]; decide) (by rw [c26]; rfl) (by decide) ?_
        refine lv_aload_n hx hb dL_law_240 rfl (lv_at hl 1 rfl) ?_
        obtain ⟨v27, hg, hm⟩ := xbnd hm
        refine xcallV xm_L_23 xt_X8_build X hP hS (qX8_build l w  M v27 hg) xy0 rfl ⟨Nat.le_of_ble_eq_true rfl, Nat.le_of_ble_eq_true rfl⟩ ⟨rfl, rfl⟩ hl.1 rfl (rest := []) rfl (Nat.le_of_ble_eq_true rfl) dL_law_241 ⟨Nat.le_of_ble_eq_true rfl, Nat.le_of_ble_eq_true rfl⟩ (fun H locs hP hS => ?_)
        refine W.eq (g2 := F0 m 244 ls [.int v27.1]) rfl ?_
        refine lv_aload_n hx hb dL_law_244 rfl (lv_at hl 2 rfl) ?_
        obtain ⟨v28, hg, hm⟩ := xbnd hm
        refine xcallV xm_L_27 xt_X9_build X hP hS (qX9_build l w  v27.2 v28 hg) xy37 rfl ⟨Nat.le_of_ble_eq_true rfl, Nat.le_of_ble_eq_true rfl⟩ ⟨rfl, rfl⟩ hl.1 rfl (rest := [.int v27.1]) rfl (Nat.le_of_ble_eq_true rfl) dL_law_245 ⟨Nat.le_of_ble_eq_true rfl, Nat.le_of_ble_eq_true rfl⟩ (fun H locs hP hS => ?_)
        refine W.eq (g2 := F0 m 248 ls [.int v28.1, .int v27.1]) rfl ?_
        refine lv_icmp_eq (tgt := 827) hx hb dL_law_248 (by decide) (fun c29 => ?_) (fun c29 => ?_)
        · have hm := xift c29 hm
          exact kL_law_827 X hX hbl hbA hz V hV (fL_law_18 xs L n) ih x3 v28.2 _ _ _ hm hP hS (lv_sub hl [0, 1, 2, 3] rfl)
        · have hm := xiff c29 hm
          refine lv_iconst (v := 0) hx hb dL_law_251 (by decide) ?_
          obtain rfl := Option.some.inj hm
          exact absurd hV (by decide)
      have hm := xiff c26 hm
      by_cases c30 : y3 = 3
      · have hm := xift c30 hm
        refine lv_tableIn (tgt := 253) (off := 220) hx hb dL_law_33 (by rw [c30]; decide) (by rw [c30]; decide) (by rw [c30]; rfl) (by decide) ?_
        refine lv_aload_n hx hb dL_law_253 rfl (lv_at hl 1 rfl) ?_
        refine lv_aload_n hx hb dL_law_254 rfl (lv_at hl 0 rfl) ?_
        refine lv_iload_n hx hb dL_law_255 rfl (lv_at hl 3 rfl) ?_
        refine lv_iconst (v := 1) hx hb dL_law_256 (by decide) ?_
        refine lv_iadd hx hb dL_law_257 ?_
        obtain ⟨hi31, hm⟩ := xifn hm
        refine va_sld hx hb hX hbl hbA hS hi31 dL_law_258 ?_
        obtain ⟨v32, hg, hm⟩ := xbnd hm
        refine xcallV xm_L_28 xt_X8_sign X hP hS (qX8_sign l w (xs (x3 + 1).toNatClampNeg) M v32 hg) xy0 rfl ⟨Nat.le_of_ble_eq_true rfl, Nat.le_of_ble_eq_true rfl⟩ ⟨rfl, rfl⟩ hl.1 rfl (rest := []) rfl (Nat.le_of_ble_eq_true rfl) dL_law_259 ⟨Nat.le_of_ble_eq_true rfl, Nat.le_of_ble_eq_true rfl⟩ (fun H locs hP hS => ?_)
        refine W.eq (g2 := F0 m 262 ls [.int v32]) rfl ?_
        refine lv_aload_n hx hb dL_law_262 rfl (lv_at hl 2 rfl) ?_
        refine lv_aload_n hx hb dL_law_263 rfl (lv_at hl 0 rfl) ?_
        refine lv_iload_n hx hb dL_law_264 rfl (lv_at hl 3 rfl) ?_
        refine lv_iconst (v := 1) hx hb dL_law_265 (by decide) ?_
        refine lv_iadd hx hb dL_law_266 ?_
        obtain ⟨hi33, hm⟩ := xifn hm
        refine va_sld hx hb hX hbl hbA hS hi33 dL_law_267 ?_
        obtain ⟨v34, hg, hm⟩ := xbnd hm
        refine xcallV xm_L_32 xt_X9_sign X hP hS (qX9_sign l w (xs (x3 + 1).toNatClampNeg) M v34 hg) xy37 rfl ⟨Nat.le_of_ble_eq_true rfl, Nat.le_of_ble_eq_true rfl⟩ ⟨rfl, rfl⟩ hl.1 rfl (rest := [.int v32]) rfl (Nat.le_of_ble_eq_true rfl) dL_law_268 ⟨Nat.le_of_ble_eq_true rfl, Nat.le_of_ble_eq_true rfl⟩ (fun H locs hP hS => ?_)
        refine W.eq (g2 := F0 m 271 ls [.int v34, .int v32]) rfl ?_
        refine lv_icmp_eq (tgt := 827) hx hb dL_law_271 (by decide) (fun c35 => ?_) (fun c35 => ?_)
        · have hm := xift c35 hm
          exact kL_law_827 X hX hbl hbA hz V hV (fL_law_18 xs L n) ih x3 M _ _ _ hm hP hS (lv_sub hl [0, 1, 2, 3] rfl)
        · have hm := xiff c35 hm
          refine lv_iconst (v := 0) hx hb dL_law_274 (by decide) ?_
          obtain rfl := Option.some.inj hm
          exact absurd hV (by decide)
      have hm := xiff c30 hm
      by_cases c36 : y3 = 4
      · have hm := xift c36 hm
        refine lv_tableIn (tgt := 276) (off := 243) hx hb dL_law_33 (by rw [c36]; decide) (by rw [c36]; decide) (by rw [c36]; rfl) (by decide) ?_
        refine lv_aload_n hx hb dL_law_276 rfl (lv_at hl 1 rfl) ?_
        refine lv_aload_n hx hb dL_law_277 rfl (lv_at hl 0 rfl) ?_
        refine lv_iload_n hx hb dL_law_278 rfl (lv_at hl 3 rfl) ?_
        refine lv_iconst (v := 1) hx hb dL_law_279 (by decide) ?_
        refine lv_iadd hx hb dL_law_280 ?_
        obtain ⟨hi37, hm⟩ := xifn hm
        refine va_sld hx hb hX hbl hbA hS hi37 dL_law_281 ?_
        refine lv_aload_n hx hb dL_law_282 rfl (lv_at hl 0 rfl) ?_
        refine lv_iload_n hx hb dL_law_283 rfl (lv_at hl 3 rfl) ?_
        refine lv_iconst (v := 2) hx hb dL_law_284 (by decide) ?_
        refine lv_iadd hx hb dL_law_285 ?_
        obtain ⟨hi38, hm⟩ := xifn hm
        refine va_sld hx hb hX hbl hbA hS hi38 dL_law_286 ?_
        obtain ⟨v39, hg, hm⟩ := xbnd hm
        refine xcallV xm_L_33 xt_X8_text X hP hS (qX8_text l w (xs (x3 + 1).toNatClampNeg) (xs (x3 + 2).toNatClampNeg) M v39 hg) xy0 rfl ⟨Nat.le_of_ble_eq_true rfl, Nat.le_of_ble_eq_true rfl⟩ ⟨rfl, rfl⟩ hl.1 rfl (rest := []) rfl (Nat.le_of_ble_eq_true rfl) dL_law_287 ⟨Nat.le_of_ble_eq_true rfl, Nat.le_of_ble_eq_true rfl⟩ (fun H locs hP hS => ?_)
        refine W.eq (g2 := F0 m 290 ls [.int v39]) rfl ?_
        refine lv_aload_n hx hb dL_law_290 rfl (lv_at hl 2 rfl) ?_
        refine lv_aload_n hx hb dL_law_291 rfl (lv_at hl 0 rfl) ?_
        refine lv_iload_n hx hb dL_law_292 rfl (lv_at hl 3 rfl) ?_
        refine lv_iconst (v := 1) hx hb dL_law_293 (by decide) ?_
        refine lv_iadd hx hb dL_law_294 ?_
        obtain ⟨hi40, hm⟩ := xifn hm
        refine va_sld hx hb hX hbl hbA hS hi40 dL_law_295 ?_
        refine lv_aload_n hx hb dL_law_296 rfl (lv_at hl 0 rfl) ?_
        refine lv_iload_n hx hb dL_law_297 rfl (lv_at hl 3 rfl) ?_
        refine lv_iconst (v := 2) hx hb dL_law_298 (by decide) ?_
        refine lv_iadd hx hb dL_law_299 ?_
        obtain ⟨hi41, hm⟩ := xifn hm
        refine va_sld hx hb hX hbl hbA hS hi41 dL_law_300 ?_
        obtain ⟨v42, hg, hm⟩ := xbnd hm
        refine xcallV xm_L_36 xt_X9_text X hP hS (qX9_text l w (xs (x3 + 1).toNatClampNeg) (xs (x3 + 2).toNatClampNeg) M v42 hg) xy37 rfl ⟨Nat.le_of_ble_eq_true rfl, Nat.le_of_ble_eq_true rfl⟩ ⟨rfl, rfl⟩ hl.1 rfl (rest := [.int v39]) rfl (Nat.le_of_ble_eq_true rfl) dL_law_301 ⟨Nat.le_of_ble_eq_true rfl, Nat.le_of_ble_eq_true rfl⟩ (fun H locs hP hS => ?_)
        refine W.eq (g2 := F0 m 304 ls [.int v42, .int v39]) rfl ?_
        refine lv_icmp_eq (tgt := 827) hx hb dL_law_304 (by decide) (fun c43 => ?_) (fun c43 => ?_)
        · have hm := xift c43 hm
          exact kL_law_827 X hX hbl hbA hz V hV (fL_law_18 xs L n) ih x3 M _ _ _ hm hP hS (lv_sub hl [0, 1, 2, 3] rfl)
        · have hm := xiff c43 hm
          refine lv_iconst (v := 0) hx hb dL_law_307 (by decide) ?_
          obtain rfl := Option.some.inj hm
          exact absurd hV (by decide)
      have hm := xiff c36 hm
      by_cases c44 : y3 = 5
      · have hm := xift c44 hm
        refine lv_tableIn (tgt := 309) (off := 276) hx hb dL_law_33 (by rw [c44]; decide) (by rw [c44]; decide) (by rw [c44]; rfl) (by decide) ?_
        refine lv_aload_n hx hb dL_law_309 rfl (lv_at hl 1 rfl) ?_
        refine lv_aload_n hx hb dL_law_310 rfl (lv_at hl 0 rfl) ?_
        refine lv_iload_n hx hb dL_law_311 rfl (lv_at hl 3 rfl) ?_
        refine lv_iconst (v := 1) hx hb dL_law_312 (by decide) ?_
        refine lv_iadd hx hb dL_law_313 ?_
        obtain ⟨hi45, hm⟩ := xifn hm
        refine va_sld hx hb hX hbl hbA hS hi45 dL_law_314 ?_
        obtain ⟨v46, hg, hm⟩ := xbnd hm
        refine xcallV xm_L_37 xt_X8_at X hP hS (qX8_at l w (xs (x3 + 1).toNatClampNeg) M v46 hg) xy0 rfl ⟨Nat.le_of_ble_eq_true rfl, Nat.le_of_ble_eq_true rfl⟩ ⟨rfl, rfl⟩ hl.1 rfl (rest := []) rfl (Nat.le_of_ble_eq_true rfl) dL_law_315 ⟨Nat.le_of_ble_eq_true rfl, Nat.le_of_ble_eq_true rfl⟩ (fun H locs hP hS => ?_)
        refine W.eq (g2 := F0 m 318 ls [.int v46]) rfl ?_
        refine lv_aload_n hx hb dL_law_318 rfl (lv_at hl 2 rfl) ?_
        refine lv_aload_n hx hb dL_law_319 rfl (lv_at hl 0 rfl) ?_
        refine lv_iload_n hx hb dL_law_320 rfl (lv_at hl 3 rfl) ?_
        refine lv_iconst (v := 1) hx hb dL_law_321 (by decide) ?_
        refine lv_iadd hx hb dL_law_322 ?_
        obtain ⟨hi47, hm⟩ := xifn hm
        refine va_sld hx hb hX hbl hbA hS hi47 dL_law_323 ?_
        obtain ⟨v48, hg, hm⟩ := xbnd hm
        refine xcallV xm_L_40 xt_X9_at X hP hS (qX9_at l w (xs (x3 + 1).toNatClampNeg) M v48 hg) xy37 rfl ⟨Nat.le_of_ble_eq_true rfl, Nat.le_of_ble_eq_true rfl⟩ ⟨rfl, rfl⟩ hl.1 rfl (rest := [.int v46]) rfl (Nat.le_of_ble_eq_true rfl) dL_law_324 ⟨Nat.le_of_ble_eq_true rfl, Nat.le_of_ble_eq_true rfl⟩ (fun H locs hP hS => ?_)
        refine W.eq (g2 := F0 m 327 ls [.int v48, .int v46]) rfl ?_
        refine lv_icmp_eq (tgt := 827) hx hb dL_law_327 (by decide) (fun c49 => ?_) (fun c49 => ?_)
        · have hm := xift c49 hm
          exact kL_law_827 X hX hbl hbA hz V hV (fL_law_18 xs L n) ih x3 M _ _ _ hm hP hS (lv_sub hl [0, 1, 2, 3] rfl)
        · have hm := xiff c49 hm
          refine lv_iconst (v := 0) hx hb dL_law_330 (by decide) ?_
          obtain rfl := Option.some.inj hm
          exact absurd hV (by decide)
      have hm := xiff c44 hm
      by_cases c50 : y3 = 6
      · have hm := xift c50 hm
        refine lv_tableIn (tgt := 332) (off := 299) hx hb dL_law_33 (by rw [c50]; decide) (by rw [c50]; decide) (by rw [c50]; rfl) (by decide) ?_
        refine lv_aload_n hx hb dL_law_332 rfl (lv_at hl 1 rfl) ?_
        refine lv_aload_n hx hb dL_law_333 rfl (lv_at hl 0 rfl) ?_
        refine lv_iload_n hx hb dL_law_334 rfl (lv_at hl 3 rfl) ?_
        refine lv_iconst (v := 1) hx hb dL_law_335 (by decide) ?_
        refine lv_iadd hx hb dL_law_336 ?_
        obtain ⟨hi51, hm⟩ := xifn hm
        refine va_sld hx hb hX hbl hbA hS hi51 dL_law_337 ?_
        obtain ⟨v52, hg, hm⟩ := xbnd hm
        refine xcallV xm_L_41 xt_X8_rank X hP hS (qX8_rank l w (xs (x3 + 1).toNatClampNeg) M v52 hg) xy0 rfl ⟨Nat.le_of_ble_eq_true rfl, Nat.le_of_ble_eq_true rfl⟩ ⟨rfl, rfl⟩ hl.1 rfl (rest := []) rfl (Nat.le_of_ble_eq_true rfl) dL_law_338 ⟨Nat.le_of_ble_eq_true rfl, Nat.le_of_ble_eq_true rfl⟩ (fun H locs hP hS => ?_)
        refine W.eq (g2 := F0 m 341 ls [.int v52]) rfl ?_
        refine lv_aload_n hx hb dL_law_341 rfl (lv_at hl 2 rfl) ?_
        refine lv_aload_n hx hb dL_law_342 rfl (lv_at hl 0 rfl) ?_
        refine lv_iload_n hx hb dL_law_343 rfl (lv_at hl 3 rfl) ?_
        refine lv_iconst (v := 1) hx hb dL_law_344 (by decide) ?_
        refine lv_iadd hx hb dL_law_345 ?_
        obtain ⟨hi53, hm⟩ := xifn hm
        refine va_sld hx hb hX hbl hbA hS hi53 dL_law_346 ?_
        obtain ⟨v54, hg, hm⟩ := xbnd hm
        refine xcallV xm_L_44 xt_X9_rank X hP hS (qX9_rank l w (xs (x3 + 1).toNatClampNeg) M v54 hg) xy37 rfl ⟨Nat.le_of_ble_eq_true rfl, Nat.le_of_ble_eq_true rfl⟩ ⟨rfl, rfl⟩ hl.1 rfl (rest := [.int v52]) rfl (Nat.le_of_ble_eq_true rfl) dL_law_347 ⟨Nat.le_of_ble_eq_true rfl, Nat.le_of_ble_eq_true rfl⟩ (fun H locs hP hS => ?_)
        refine W.eq (g2 := F0 m 350 ls [.int v54, .int v52]) rfl ?_
        refine lv_icmp_eq (tgt := 827) hx hb dL_law_350 (by decide) (fun c55 => ?_) (fun c55 => ?_)
        · have hm := xift c55 hm
          exact kL_law_827 X hX hbl hbA hz V hV (fL_law_18 xs L n) ih x3 M _ _ _ hm hP hS (lv_sub hl [0, 1, 2, 3] rfl)
        · have hm := xiff c55 hm
          refine lv_iconst (v := 0) hx hb dL_law_353 (by decide) ?_
          obtain rfl := Option.some.inj hm
          exact absurd hV (by decide)
      have hm := xiff c50 hm
      by_cases c56 : y3 = 7
      · have hm := xift c56 hm
        refine lv_tableIn (tgt := 355) (off := 322) hx hb dL_law_33 (by rw [c56]; decide) (by rw [c56]; decide) (by rw [c56]; rfl) (by decide) ?_
        refine lv_aload_n hx hb dL_law_355 rfl (lv_at hl 1 rfl) ?_
        refine lv_aload_n hx hb dL_law_356 rfl (lv_at hl 0 rfl) ?_
        refine lv_iload_n hx hb dL_law_357 rfl (lv_at hl 3 rfl) ?_
        refine lv_iconst (v := 1) hx hb dL_law_358 (by decide) ?_
        refine lv_iadd hx hb dL_law_359 ?_
        obtain ⟨hi57, hm⟩ := xifn hm
        refine va_sld hx hb hX hbl hbA hS hi57 dL_law_360 ?_
        obtain ⟨v58, hg, hm⟩ := xbnd hm
        refine xcallV xm_L_45 xt_X8_beside X hP hS (qX8_beside l w (xs (x3 + 1).toNatClampNeg) M v58 hg) xy0 rfl ⟨Nat.le_of_ble_eq_true rfl, Nat.le_of_ble_eq_true rfl⟩ ⟨rfl, rfl⟩ hl.1 rfl (rest := []) rfl (Nat.le_of_ble_eq_true rfl) dL_law_361 ⟨Nat.le_of_ble_eq_true rfl, Nat.le_of_ble_eq_true rfl⟩ (fun H locs hP hS => ?_)
        refine W.eq (g2 := F0 m 364 ls [.int v58]) rfl ?_
        refine lv_aload_n hx hb dL_law_364 rfl (lv_at hl 2 rfl) ?_
        refine lv_aload_n hx hb dL_law_365 rfl (lv_at hl 0 rfl) ?_
        refine lv_iload_n hx hb dL_law_366 rfl (lv_at hl 3 rfl) ?_
        refine lv_iconst (v := 1) hx hb dL_law_367 (by decide) ?_
        refine lv_iadd hx hb dL_law_368 ?_
        obtain ⟨hi59, hm⟩ := xifn hm
        refine va_sld hx hb hX hbl hbA hS hi59 dL_law_369 ?_
        obtain ⟨v60, hg, hm⟩ := xbnd hm
        refine xcallV xm_L_48 xt_X9_beside X hP hS (qX9_beside l w (xs (x3 + 1).toNatClampNeg) M v60 hg) xy37 rfl ⟨Nat.le_of_ble_eq_true rfl, Nat.le_of_ble_eq_true rfl⟩ ⟨rfl, rfl⟩ hl.1 rfl (rest := [.int v58]) rfl (Nat.le_of_ble_eq_true rfl) dL_law_370 ⟨Nat.le_of_ble_eq_true rfl, Nat.le_of_ble_eq_true rfl⟩ (fun H locs hP hS => ?_)
        refine W.eq (g2 := F0 m 373 ls [.int v60, .int v58]) rfl ?_
        refine lv_icmp_eq (tgt := 827) hx hb dL_law_373 (by decide) (fun c61 => ?_) (fun c61 => ?_)
        · have hm := xift c61 hm
          exact kL_law_827 X hX hbl hbA hz V hV (fL_law_18 xs L n) ih x3 M _ _ _ hm hP hS (lv_sub hl [0, 1, 2, 3] rfl)
        · have hm := xiff c61 hm
          refine lv_iconst (v := 0) hx hb dL_law_376 (by decide) ?_
          obtain rfl := Option.some.inj hm
          exact absurd hV (by decide)
      have hm := xiff c56 hm
      by_cases c62 : y3 = 8
      · have hm := xift c62 hm
        refine lv_tableIn (tgt := 378) (off := 345) hx hb dL_law_33 (by rw [c62]; decide) (by rw [c62]; decide) (by rw [c62]; rfl) (by decide) ?_
        refine lv_aload_n hx hb dL_law_378 rfl (lv_at hl 1 rfl) ?_
        refine lv_aload_n hx hb dL_law_379 rfl (lv_at hl 0 rfl) ?_
        refine lv_iload_n hx hb dL_law_380 rfl (lv_at hl 3 rfl) ?_
        refine lv_iconst (v := 1) hx hb dL_law_381 (by decide) ?_
        refine lv_iadd hx hb dL_law_382 ?_
        obtain ⟨hi63, hm⟩ := xifn hm
        refine va_sld hx hb hX hbl hbA hS hi63 dL_law_383 ?_
        refine lv_aload_n hx hb dL_law_384 rfl (lv_at hl 0 rfl) ?_
        refine lv_iload_n hx hb dL_law_385 rfl (lv_at hl 3 rfl) ?_
        refine lv_iconst (v := 2) hx hb dL_law_386 (by decide) ?_
        refine lv_iadd hx hb dL_law_387 ?_
        obtain ⟨hi64, hm⟩ := xifn hm
        refine va_sld hx hb hX hbl hbA hS hi64 dL_law_388 ?_
        obtain ⟨v65, hg, hm⟩ := xbnd hm
        refine xcallV xm_L_49 xt_X8_common X hP hS (qX8_common l w (xs (x3 + 1).toNatClampNeg) (xs (x3 + 2).toNatClampNeg) M v65 hg) xy0 rfl ⟨Nat.le_of_ble_eq_true rfl, Nat.le_of_ble_eq_true rfl⟩ ⟨rfl, rfl⟩ hl.1 rfl (rest := []) rfl (Nat.le_of_ble_eq_true rfl) dL_law_389 ⟨Nat.le_of_ble_eq_true rfl, Nat.le_of_ble_eq_true rfl⟩ (fun H locs hP hS => ?_)
        refine W.eq (g2 := F0 m 392 ls [.int v65]) rfl ?_
        refine lv_aload_n hx hb dL_law_392 rfl (lv_at hl 2 rfl) ?_
        refine lv_aload_n hx hb dL_law_393 rfl (lv_at hl 0 rfl) ?_
        refine lv_iload_n hx hb dL_law_394 rfl (lv_at hl 3 rfl) ?_
        refine lv_iconst (v := 1) hx hb dL_law_395 (by decide) ?_
        refine lv_iadd hx hb dL_law_396 ?_
        obtain ⟨hi66, hm⟩ := xifn hm
        refine va_sld hx hb hX hbl hbA hS hi66 dL_law_397 ?_
        refine lv_aload_n hx hb dL_law_398 rfl (lv_at hl 0 rfl) ?_
        refine lv_iload_n hx hb dL_law_399 rfl (lv_at hl 3 rfl) ?_
        refine lv_iconst (v := 2) hx hb dL_law_400 (by decide) ?_
        refine lv_iadd hx hb dL_law_401 ?_
        obtain ⟨hi67, hm⟩ := xifn hm
        refine va_sld hx hb hX hbl hbA hS hi67 dL_law_402 ?_
        obtain ⟨v68, hg, hm⟩ := xbnd hm
        refine xcallV xm_L_52 xt_X9_common X hP hS (qX9_common l w (xs (x3 + 1).toNatClampNeg) (xs (x3 + 2).toNatClampNeg) M v68 hg) xy37 rfl ⟨Nat.le_of_ble_eq_true rfl, Nat.le_of_ble_eq_true rfl⟩ ⟨rfl, rfl⟩ hl.1 rfl (rest := [.int v65]) rfl (Nat.le_of_ble_eq_true rfl) dL_law_403 ⟨Nat.le_of_ble_eq_true rfl, Nat.le_of_ble_eq_true rfl⟩ (fun H locs hP hS => ?_)
        refine W.eq (g2 := F0 m 406 ls [.int v68, .int v65]) rfl ?_
        refine lv_icmp_eq (tgt := 827) hx hb dL_law_406 (by decide) (fun c69 => ?_) (fun c69 => ?_)
        · have hm := xift c69 hm
          exact kL_law_827 X hX hbl hbA hz V hV (fL_law_18 xs L n) ih x3 M _ _ _ hm hP hS (lv_sub hl [0, 1, 2, 3] rfl)
        · have hm := xiff c69 hm
          refine lv_iconst (v := 0) hx hb dL_law_409 (by decide) ?_
          obtain rfl := Option.some.inj hm
          exact absurd hV (by decide)
      have hm := xiff c62 hm
      by_cases c70 : y3 = 9
      · have hm := xift c70 hm
        refine lv_tableIn (tgt := 411) (off := 378) hx hb dL_law_33 (by rw [c70]; decide) (by rw [c70]; decide) (by rw [c70]; rfl) (by decide) ?_
        refine lv_aload_n hx hb dL_law_411 rfl (lv_at hl 1 rfl) ?_
        refine lv_aload_n hx hb dL_law_412 rfl (lv_at hl 0 rfl) ?_
        refine lv_iload_n hx hb dL_law_413 rfl (lv_at hl 3 rfl) ?_
        refine lv_iconst (v := 1) hx hb dL_law_414 (by decide) ?_
        refine lv_iadd hx hb dL_law_415 ?_
        obtain ⟨hi71, hm⟩ := xifn hm
        refine va_sld hx hb hX hbl hbA hS hi71 dL_law_416 ?_
        refine lv_aload_n hx hb dL_law_417 rfl (lv_at hl 0 rfl) ?_
        refine lv_iload_n hx hb dL_law_418 rfl (lv_at hl 3 rfl) ?_
        refine lv_iconst (v := 2) hx hb dL_law_419 (by decide) ?_
        refine lv_iadd hx hb dL_law_420 ?_
        obtain ⟨hi72, hm⟩ := xifn hm
        refine va_sld hx hb hX hbl hbA hS hi72 dL_law_421 ?_
        obtain ⟨v73, hg, hm⟩ := xbnd hm
        refine xcallV xm_L_53 xt_X8_copy X hP hS (qX8_copy l w (xs (x3 + 1).toNatClampNeg) (xs (x3 + 2).toNatClampNeg) M v73 hg) xy0 rfl ⟨Nat.le_of_ble_eq_true rfl, Nat.le_of_ble_eq_true rfl⟩ ⟨rfl, rfl⟩ hl.1 rfl (rest := []) rfl (Nat.le_of_ble_eq_true rfl) dL_law_422 ⟨Nat.le_of_ble_eq_true rfl, Nat.le_of_ble_eq_true rfl⟩ (fun H locs hP hS => ?_)
        refine W.eq (g2 := F0 m 425 ls [.int v73]) rfl ?_
        refine lv_aload_n hx hb dL_law_425 rfl (lv_at hl 2 rfl) ?_
        refine lv_aload_n hx hb dL_law_426 rfl (lv_at hl 0 rfl) ?_
        refine lv_iload_n hx hb dL_law_427 rfl (lv_at hl 3 rfl) ?_
        refine lv_iconst (v := 1) hx hb dL_law_428 (by decide) ?_
        refine lv_iadd hx hb dL_law_429 ?_
        obtain ⟨hi74, hm⟩ := xifn hm
        refine va_sld hx hb hX hbl hbA hS hi74 dL_law_430 ?_
        refine lv_aload_n hx hb dL_law_431 rfl (lv_at hl 0 rfl) ?_
        refine lv_iload_n hx hb dL_law_432 rfl (lv_at hl 3 rfl) ?_
        refine lv_iconst (v := 2) hx hb dL_law_433 (by decide) ?_
        refine lv_iadd hx hb dL_law_434 ?_
        obtain ⟨hi75, hm⟩ := xifn hm
        refine va_sld hx hb hX hbl hbA hS hi75 dL_law_435 ?_
        obtain ⟨v76, hg, hm⟩ := xbnd hm
        refine xcallV xm_L_56 xt_X9_copy X hP hS (qX9_copy l w (xs (x3 + 1).toNatClampNeg) (xs (x3 + 2).toNatClampNeg) M v76 hg) xy37 rfl ⟨Nat.le_of_ble_eq_true rfl, Nat.le_of_ble_eq_true rfl⟩ ⟨rfl, rfl⟩ hl.1 rfl (rest := [.int v73]) rfl (Nat.le_of_ble_eq_true rfl) dL_law_436 ⟨Nat.le_of_ble_eq_true rfl, Nat.le_of_ble_eq_true rfl⟩ (fun H locs hP hS => ?_)
        refine W.eq (g2 := F0 m 439 ls [.int v76, .int v73]) rfl ?_
        refine lv_icmp_eq (tgt := 827) hx hb dL_law_439 (by decide) (fun c77 => ?_) (fun c77 => ?_)
        · have hm := xift c77 hm
          exact kL_law_827 X hX hbl hbA hz V hV (fL_law_18 xs L n) ih x3 M _ _ _ hm hP hS (lv_sub hl [0, 1, 2, 3] rfl)
        · have hm := xiff c77 hm
          refine lv_iconst (v := 0) hx hb dL_law_442 (by decide) ?_
          obtain rfl := Option.some.inj hm
          exact absurd hV (by decide)
      have hm := xiff c70 hm
      by_cases c78 : y3 = 10
      · have hm := xift c78 hm
        refine lv_tableIn (tgt := 444) (off := 411) hx hb dL_law_33 (by rw [c78]; decide) (by rw [c78]; decide) (by rw [c78]; rfl) (by decide) ?_
        refine lv_aload_n hx hb dL_law_444 rfl (lv_at hl 1 rfl) ?_
        refine lv_aload_n hx hb dL_law_445 rfl (lv_at hl 0 rfl) ?_
        refine lv_iload_n hx hb dL_law_446 rfl (lv_at hl 3 rfl) ?_
        refine lv_iconst (v := 1) hx hb dL_law_447 (by decide) ?_
        refine lv_iadd hx hb dL_law_448 ?_
        obtain ⟨hi79, hm⟩ := xifn hm
        refine va_sld hx hb hX hbl hbA hS hi79 dL_law_449 ?_
        refine lv_aload_n hx hb dL_law_450 rfl (lv_at hl 0 rfl) ?_
        refine lv_iload_n hx hb dL_law_451 rfl (lv_at hl 3 rfl) ?_
        refine lv_iconst (v := 2) hx hb dL_law_452 (by decide) ?_
        refine lv_iadd hx hb dL_law_453 ?_
        obtain ⟨hi80, hm⟩ := xifn hm
        refine va_sld hx hb hX hbl hbA hS hi80 dL_law_454 ?_
        refine lv_aload_n hx hb dL_law_455 rfl (lv_at hl 0 rfl) ?_
        refine lv_iload_n hx hb dL_law_456 rfl (lv_at hl 3 rfl) ?_
        refine lv_iconst (v := 3) hx hb dL_law_457 (by decide) ?_
        refine lv_iadd hx hb dL_law_458 ?_
        obtain ⟨hi81, hm⟩ := xifn hm
        refine va_sld hx hb hX hbl hbA hS hi81 dL_law_459 ?_
        refine lv_aload_n hx hb dL_law_460 rfl (lv_at hl 0 rfl) ?_
        refine lv_iload_n hx hb dL_law_461 rfl (lv_at hl 3 rfl) ?_
        refine lv_iconst (v := 4) hx hb dL_law_462 (by decide) ?_
        refine lv_iadd hx hb dL_law_463 ?_
        obtain ⟨hi82, hm⟩ := xifn hm
        refine va_sld hx hb hX hbl hbA hS hi82 dL_law_464 ?_
        obtain ⟨v83, hg, hm⟩ := xbnd hm
        refine xcallV xm_L_57 xt_X8_pattern X hP hS (qX8_pattern l w (xs (x3 + 1).toNatClampNeg) (xs (x3 + 2).toNatClampNeg) (xs (x3 + 3).toNatClampNeg) (xs (x3 + 4).toNatClampNeg) M v83 hg) xy0 rfl ⟨Nat.le_of_ble_eq_true rfl, Nat.le_of_ble_eq_true rfl⟩ ⟨rfl, rfl⟩ hl.1 rfl (rest := []) rfl (Nat.le_of_ble_eq_true rfl) dL_law_465 ⟨Nat.le_of_ble_eq_true rfl, Nat.le_of_ble_eq_true rfl⟩ (fun H locs hP hS => ?_)
        refine W.eq (g2 := F0 m 468 ls [.int v83.1]) rfl ?_
        refine lv_aload_n hx hb dL_law_468 rfl (lv_at hl 2 rfl) ?_
        refine lv_aload_n hx hb dL_law_469 rfl (lv_at hl 0 rfl) ?_
        refine lv_iload_n hx hb dL_law_470 rfl (lv_at hl 3 rfl) ?_
        refine lv_iconst (v := 1) hx hb dL_law_471 (by decide) ?_
        refine lv_iadd hx hb dL_law_472 ?_
        obtain ⟨hi84, hm⟩ := xifn hm
        refine va_sld hx hb hX hbl hbA hS hi84 dL_law_473 ?_
        refine lv_aload_n hx hb dL_law_474 rfl (lv_at hl 0 rfl) ?_
        refine lv_iload_n hx hb dL_law_475 rfl (lv_at hl 3 rfl) ?_
        refine lv_iconst (v := 2) hx hb dL_law_476 (by decide) ?_
        refine lv_iadd hx hb dL_law_477 ?_
        obtain ⟨hi85, hm⟩ := xifn hm
        refine va_sld hx hb hX hbl hbA hS hi85 dL_law_478 ?_
        refine lv_aload_n hx hb dL_law_479 rfl (lv_at hl 0 rfl) ?_
        refine lv_iload_n hx hb dL_law_480 rfl (lv_at hl 3 rfl) ?_
        refine lv_iconst (v := 3) hx hb dL_law_481 (by decide) ?_
        refine lv_iadd hx hb dL_law_482 ?_
        obtain ⟨hi86, hm⟩ := xifn hm
        refine va_sld hx hb hX hbl hbA hS hi86 dL_law_483 ?_
        refine lv_aload_n hx hb dL_law_484 rfl (lv_at hl 0 rfl) ?_
        refine lv_iload_n hx hb dL_law_485 rfl (lv_at hl 3 rfl) ?_
        refine lv_iconst (v := 4) hx hb dL_law_486 (by decide) ?_
        refine lv_iadd hx hb dL_law_487 ?_
        obtain ⟨hi87, hm⟩ := xifn hm
        refine va_sld hx hb hX hbl hbA hS hi87 dL_law_488 ?_
        obtain ⟨v88, hg, hm⟩ := xbnd hm
        refine xcallV xm_L_61 xt_X9_pattern X hP hS (qX9_pattern l w (xs (x3 + 1).toNatClampNeg) (xs (x3 + 2).toNatClampNeg) (xs (x3 + 3).toNatClampNeg) (xs (x3 + 4).toNatClampNeg) v83.2 v88 hg) xy37 rfl ⟨Nat.le_of_ble_eq_true rfl, Nat.le_of_ble_eq_true rfl⟩ ⟨rfl, rfl⟩ hl.1 rfl (rest := [.int v83.1]) rfl (Nat.le_of_ble_eq_true rfl) dL_law_489 ⟨Nat.le_of_ble_eq_true rfl, Nat.le_of_ble_eq_true rfl⟩ (fun H locs hP hS => ?_)
        refine W.eq (g2 := F0 m 492 ls [.int v88.1, .int v83.1]) rfl ?_
        refine lv_icmp_eq (tgt := 827) hx hb dL_law_492 (by decide) (fun c89 => ?_) (fun c89 => ?_)
        · have hm := xift c89 hm
          exact kL_law_827 X hX hbl hbA hz V hV (fL_law_18 xs L n) ih x3 v88.2 _ _ _ hm hP hS (lv_sub hl [0, 1, 2, 3] rfl)
        · have hm := xiff c89 hm
          refine lv_iconst (v := 0) hx hb dL_law_495 (by decide) ?_
          obtain rfl := Option.some.inj hm
          exact absurd hV (by decide)
      have hm := xiff c78 hm
      by_cases c90 : y3 = 11
      · have hm := xift c90 hm
        refine lv_tableIn (tgt := 497) (off := 464) hx hb dL_law_33 (by rw [c90]; decide) (by rw [c90]; decide) (by rw [c90]; rfl) (by decide) ?_
        refine lv_aload_n hx hb dL_law_497 rfl (lv_at hl 1 rfl) ?_
        obtain ⟨v91, hg, hm⟩ := xbnd hm
        refine xcallV xm_L_62 xt_X8_wipe X hP hS (qX8_wipe l w  M v91 hg) xy0 rfl ⟨Nat.le_of_ble_eq_true rfl, Nat.le_of_ble_eq_true rfl⟩ ⟨rfl, rfl⟩ hl.1 rfl (rest := []) rfl (Nat.le_of_ble_eq_true rfl) dL_law_498 ⟨Nat.le_of_ble_eq_true rfl, Nat.le_of_ble_eq_true rfl⟩ (fun H locs hP hS => ?_)
        refine W.eq (g2 := F0 m 501 ls [.int v91.1]) rfl ?_
        refine lv_aload_n hx hb dL_law_501 rfl (lv_at hl 2 rfl) ?_
        obtain ⟨v92, hg, hm⟩ := xbnd hm
        refine xcallV xm_L_65 xt_X9_wipe X hP hS (qX9_wipe l w  v91.2 v92 hg) xy37 rfl ⟨Nat.le_of_ble_eq_true rfl, Nat.le_of_ble_eq_true rfl⟩ ⟨rfl, rfl⟩ hl.1 rfl (rest := [.int v91.1]) rfl (Nat.le_of_ble_eq_true rfl) dL_law_502 ⟨Nat.le_of_ble_eq_true rfl, Nat.le_of_ble_eq_true rfl⟩ (fun H locs hP hS => ?_)
        refine W.eq (g2 := F0 m 505 ls [.int v92.1, .int v91.1]) rfl ?_
        refine lv_icmp_eq (tgt := 827) hx hb dL_law_505 (by decide) (fun c93 => ?_) (fun c93 => ?_)
        · have hm := xift c93 hm
          exact kL_law_827 X hX hbl hbA hz V hV (fL_law_18 xs L n) ih x3 v92.2 _ _ _ hm hP hS (lv_sub hl [0, 1, 2, 3] rfl)
        · have hm := xiff c93 hm
          refine lv_iconst (v := 0) hx hb dL_law_508 (by decide) ?_
          obtain rfl := Option.some.inj hm
          exact absurd hV (by decide)
      have hm := xiff c90 hm
      by_cases c94 : y3 = 12
      · have hm := xift c94 hm
        refine lv_tableIn (tgt := 510) (off := 477) hx hb dL_law_33 (by rw [c94]; decide) (by rw [c94]; decide) (by rw [c94]; rfl) (by decide) ?_
        refine lv_aload_n hx hb dL_law_510 rfl (lv_at hl 1 rfl) ?_
        refine lv_aload_n hx hb dL_law_511 rfl (lv_at hl 0 rfl) ?_
        refine lv_iload_n hx hb dL_law_512 rfl (lv_at hl 3 rfl) ?_
        refine lv_iconst (v := 1) hx hb dL_law_513 (by decide) ?_
        refine lv_iadd hx hb dL_law_514 ?_
        obtain ⟨hi95, hm⟩ := xifn hm
        refine va_sld hx hb hX hbl hbA hS hi95 dL_law_515 ?_
        obtain ⟨v96, hg, hm⟩ := xbnd hm
        refine xcallV xm_L_66 xt_X8_find X hP hS (qX8_find l w (xs (x3 + 1).toNatClampNeg) M v96 hg) xy0 rfl ⟨Nat.le_of_ble_eq_true rfl, Nat.le_of_ble_eq_true rfl⟩ ⟨rfl, rfl⟩ hl.1 rfl (rest := []) rfl (Nat.le_of_ble_eq_true rfl) dL_law_516 ⟨Nat.le_of_ble_eq_true rfl, Nat.le_of_ble_eq_true rfl⟩ (fun H locs hP hS => ?_)
        refine W.eq (g2 := F0 m 519 ls [.int v96]) rfl ?_
        refine lv_aload_n hx hb dL_law_519 rfl (lv_at hl 2 rfl) ?_
        refine lv_aload_n hx hb dL_law_520 rfl (lv_at hl 0 rfl) ?_
        refine lv_iload_n hx hb dL_law_521 rfl (lv_at hl 3 rfl) ?_
        refine lv_iconst (v := 1) hx hb dL_law_522 (by decide) ?_
        refine lv_iadd hx hb dL_law_523 ?_
        obtain ⟨hi97, hm⟩ := xifn hm
        refine va_sld hx hb hX hbl hbA hS hi97 dL_law_524 ?_
        obtain ⟨v98, hg, hm⟩ := xbnd hm
        refine xcallV xm_L_69 xt_X9_find X hP hS (qX9_find l w (xs (x3 + 1).toNatClampNeg) M v98 hg) xy37 rfl ⟨Nat.le_of_ble_eq_true rfl, Nat.le_of_ble_eq_true rfl⟩ ⟨rfl, rfl⟩ hl.1 rfl (rest := [.int v96]) rfl (Nat.le_of_ble_eq_true rfl) dL_law_525 ⟨Nat.le_of_ble_eq_true rfl, Nat.le_of_ble_eq_true rfl⟩ (fun H locs hP hS => ?_)
        refine W.eq (g2 := F0 m 528 ls [.int v98, .int v96]) rfl ?_
        refine lv_icmp_eq (tgt := 827) hx hb dL_law_528 (by decide) (fun c99 => ?_) (fun c99 => ?_)
        · have hm := xift c99 hm
          exact kL_law_827 X hX hbl hbA hz V hV (fL_law_18 xs L n) ih x3 M _ _ _ hm hP hS (lv_sub hl [0, 1, 2, 3] rfl)
        · have hm := xiff c99 hm
          refine lv_iconst (v := 0) hx hb dL_law_531 (by decide) ?_
          obtain rfl := Option.some.inj hm
          exact absurd hV (by decide)
      have hm := xiff c94 hm
      by_cases c100 : y3 = 13
      · have hm := xift c100 hm
        refine lv_tableIn (tgt := 533) (off := 500) hx hb dL_law_33 (by rw [c100]; decide) (by rw [c100]; decide) (by rw [c100]; rfl) (by decide) ?_
        refine lv_aload_n hx hb dL_law_533 rfl (lv_at hl 1 rfl) ?_
        refine lv_aload_n hx hb dL_law_534 rfl (lv_at hl 0 rfl) ?_
        refine lv_iload_n hx hb dL_law_535 rfl (lv_at hl 3 rfl) ?_
        refine lv_iconst (v := 1) hx hb dL_law_536 (by decide) ?_
        refine lv_iadd hx hb dL_law_537 ?_
        obtain ⟨hi101, hm⟩ := xifn hm
        refine va_sld hx hb hX hbl hbA hS hi101 dL_law_538 ?_
        obtain ⟨v102, hg, hm⟩ := xbnd hm
        refine xcallV xm_L_70 xt_X8_where X hP hS (qX8_where l w (xs (x3 + 1).toNatClampNeg) M v102 hg) xy0 rfl ⟨Nat.le_of_ble_eq_true rfl, Nat.le_of_ble_eq_true rfl⟩ ⟨rfl, rfl⟩ hl.1 rfl (rest := []) rfl (Nat.le_of_ble_eq_true rfl) dL_law_539 ⟨Nat.le_of_ble_eq_true rfl, Nat.le_of_ble_eq_true rfl⟩ (fun H locs hP hS => ?_)
        refine W.eq (g2 := F0 m 542 ls [.int v102]) rfl ?_
        refine lv_aload_n hx hb dL_law_542 rfl (lv_at hl 2 rfl) ?_
        refine lv_aload_n hx hb dL_law_543 rfl (lv_at hl 0 rfl) ?_
        refine lv_iload_n hx hb dL_law_544 rfl (lv_at hl 3 rfl) ?_
        refine lv_iconst (v := 1) hx hb dL_law_545 (by decide) ?_
        refine lv_iadd hx hb dL_law_546 ?_
        obtain ⟨hi103, hm⟩ := xifn hm
        refine va_sld hx hb hX hbl hbA hS hi103 dL_law_547 ?_
        obtain ⟨v104, hg, hm⟩ := xbnd hm
        refine xcallV xm_L_73 xt_X9_where X hP hS (qX9_where l w (xs (x3 + 1).toNatClampNeg) M v104 hg) xy37 rfl ⟨Nat.le_of_ble_eq_true rfl, Nat.le_of_ble_eq_true rfl⟩ ⟨rfl, rfl⟩ hl.1 rfl (rest := [.int v102]) rfl (Nat.le_of_ble_eq_true rfl) dL_law_548 ⟨Nat.le_of_ble_eq_true rfl, Nat.le_of_ble_eq_true rfl⟩ (fun H locs hP hS => ?_)
        refine W.eq (g2 := F0 m 551 ls [.int v104, .int v102]) rfl ?_
        refine lv_icmp_eq (tgt := 827) hx hb dL_law_551 (by decide) (fun c105 => ?_) (fun c105 => ?_)
        · have hm := xift c105 hm
          exact kL_law_827 X hX hbl hbA hz V hV (fL_law_18 xs L n) ih x3 M _ _ _ hm hP hS (lv_sub hl [0, 1, 2, 3] rfl)
        · have hm := xiff c105 hm
          refine lv_iconst (v := 0) hx hb dL_law_554 (by decide) ?_
          obtain rfl := Option.some.inj hm
          exact absurd hV (by decide)
      have hm := xiff c100 hm
      by_cases c106 : y3 = 14
      · have hm := xift c106 hm
        refine lv_tableIn (tgt := 556) (off := 523) hx hb dL_law_33 (by rw [c106]; decide) (by rw [c106]; decide) (by rw [c106]; rfl) (by decide) ?_
        refine lv_aload_n hx hb dL_law_556 rfl (lv_at hl 1 rfl) ?_
        obtain ⟨v107, hg, hm⟩ := xbnd hm
        refine xcallV xm_L_74 xt_X8_different X hP hS (qX8_different l w  M v107 hg) xy0 rfl ⟨Nat.le_of_ble_eq_true rfl, Nat.le_of_ble_eq_true rfl⟩ ⟨rfl, rfl⟩ hl.1 rfl (rest := []) rfl (Nat.le_of_ble_eq_true rfl) dL_law_557 ⟨Nat.le_of_ble_eq_true rfl, Nat.le_of_ble_eq_true rfl⟩ (fun H locs hP hS => ?_)
        refine W.eq (g2 := F0 m 560 ls [.long v107]) rfl ?_
        refine lv_aload_n hx hb dL_law_560 rfl (lv_at hl 2 rfl) ?_
        obtain ⟨v108, hg, hm⟩ := xbnd hm
        refine xcallV xm_L_78 xt_X9_different X hP hS (qX9_different l w  M v108 hg) xy37 rfl ⟨Nat.le_of_ble_eq_true rfl, Nat.le_of_ble_eq_true rfl⟩ ⟨rfl, rfl⟩ hl.1 rfl (rest := [.long v107]) rfl (Nat.le_of_ble_eq_true rfl) dL_law_561 ⟨Nat.le_of_ble_eq_true rfl, Nat.le_of_ble_eq_true rfl⟩ (fun H locs hP hS => ?_)
        refine W.eq (g2 := F0 m 564 ls [.long v108, .long v107]) rfl ?_
        refine W.lcmp hx hb dL_law_564 ?_
        refine lv_if_eq (tgt := 827) hx hb dL_law_565 (by decide) (fun c109 => ?_) (fun c109 => ?_)
        · have hm := xift c109 hm
          exact kL_law_827 X hX hbl hbA hz V hV (fL_law_18 xs L n) ih x3 M _ _ _ hm hP hS (lv_sub hl [0, 1, 2, 3] rfl)
        · have hm := xiff c109 hm
          refine lv_iconst (v := 0) hx hb dL_law_568 (by decide) ?_
          obtain rfl := Option.some.inj hm
          exact absurd hV (by decide)
      have hm := xiff c106 hm
      by_cases c110 : y3 = 15
      · have hm := xift c110 hm
        refine lv_tableIn (tgt := 570) (off := 537) hx hb dL_law_33 (by rw [c110]; decide) (by rw [c110]; decide) (by rw [c110]; rfl) (by decide) ?_
        refine lv_aload_n hx hb dL_law_570 rfl (lv_at hl 1 rfl) ?_
        refine lv_aload_n hx hb dL_law_571 rfl (lv_at hl 0 rfl) ?_
        refine lv_iload_n hx hb dL_law_572 rfl (lv_at hl 3 rfl) ?_
        refine lv_iconst (v := 1) hx hb dL_law_573 (by decide) ?_
        refine lv_iadd hx hb dL_law_574 ?_
        obtain ⟨hi111, hm⟩ := xifn hm
        refine va_sld hx hb hX hbl hbA hS hi111 dL_law_575 ?_
        refine lv_aload_n hx hb dL_law_576 rfl (lv_at hl 0 rfl) ?_
        refine lv_iload_n hx hb dL_law_577 rfl (lv_at hl 3 rfl) ?_
        refine lv_iconst (v := 2) hx hb dL_law_578 (by decide) ?_
        refine lv_iadd hx hb dL_law_579 ?_
        obtain ⟨hi112, hm⟩ := xifn hm
        refine va_sld hx hb hX hbl hbA hS hi112 dL_law_580 ?_
        obtain ⟨v113, hg, hm⟩ := xbnd hm
        refine xcallV xm_L_79 xt_X8_repeats X hP hS (qX8_repeats l w (xs (x3 + 1).toNatClampNeg) (xs (x3 + 2).toNatClampNeg) M v113 hg) xy0 rfl ⟨Nat.le_of_ble_eq_true rfl, Nat.le_of_ble_eq_true rfl⟩ ⟨rfl, rfl⟩ hl.1 rfl (rest := []) rfl (Nat.le_of_ble_eq_true rfl) dL_law_581 ⟨Nat.le_of_ble_eq_true rfl, Nat.le_of_ble_eq_true rfl⟩ (fun H locs hP hS => ?_)
        refine W.eq (g2 := F0 m 584 ls [.int v113]) rfl ?_
        refine lv_aload_n hx hb dL_law_584 rfl (lv_at hl 2 rfl) ?_
        refine lv_aload_n hx hb dL_law_585 rfl (lv_at hl 0 rfl) ?_
        refine lv_iload_n hx hb dL_law_586 rfl (lv_at hl 3 rfl) ?_
        refine lv_iconst (v := 1) hx hb dL_law_587 (by decide) ?_
        refine lv_iadd hx hb dL_law_588 ?_
        obtain ⟨hi114, hm⟩ := xifn hm
        refine va_sld hx hb hX hbl hbA hS hi114 dL_law_589 ?_
        refine lv_aload_n hx hb dL_law_590 rfl (lv_at hl 0 rfl) ?_
        refine lv_iload_n hx hb dL_law_591 rfl (lv_at hl 3 rfl) ?_
        refine lv_iconst (v := 2) hx hb dL_law_592 (by decide) ?_
        refine lv_iadd hx hb dL_law_593 ?_
        obtain ⟨hi115, hm⟩ := xifn hm
        refine va_sld hx hb hX hbl hbA hS hi115 dL_law_594 ?_
        obtain ⟨v116, hg, hm⟩ := xbnd hm
        refine xcallV xm_L_82 xt_X9_repeats X hP hS (qX9_repeats l w (xs (x3 + 1).toNatClampNeg) (xs (x3 + 2).toNatClampNeg) M v116 hg) xy37 rfl ⟨Nat.le_of_ble_eq_true rfl, Nat.le_of_ble_eq_true rfl⟩ ⟨rfl, rfl⟩ hl.1 rfl (rest := [.int v113]) rfl (Nat.le_of_ble_eq_true rfl) dL_law_595 ⟨Nat.le_of_ble_eq_true rfl, Nat.le_of_ble_eq_true rfl⟩ (fun H locs hP hS => ?_)
        refine W.eq (g2 := F0 m 598 ls [.int v116, .int v113]) rfl ?_
        refine lv_icmp_eq (tgt := 827) hx hb dL_law_598 (by decide) (fun c117 => ?_) (fun c117 => ?_)
        · have hm := xift c117 hm
          exact kL_law_827 X hX hbl hbA hz V hV (fL_law_18 xs L n) ih x3 M _ _ _ hm hP hS (lv_sub hl [0, 1, 2, 3] rfl)
        · have hm := xiff c117 hm
          refine lv_iconst (v := 0) hx hb dL_law_601 (by decide) ?_
          obtain rfl := Option.some.inj hm
          exact absurd hV (by decide)
      have hm := xiff c110 hm
      by_cases c118 : y3 = 16
      · have hm := xift c118 hm
        refine lv_tableIn (tgt := 603) (off := 570) hx hb dL_law_33 (by rw [c118]; decide) (by rw [c118]; decide) (by rw [c118]; rfl) (by decide) ?_
        refine lv_aload_n hx hb dL_law_603 rfl (lv_at hl 1 rfl) ?_
        refine lv_aload_n hx hb dL_law_604 rfl (lv_at hl 0 rfl) ?_
        refine lv_iload_n hx hb dL_law_605 rfl (lv_at hl 3 rfl) ?_
        refine lv_iconst (v := 1) hx hb dL_law_606 (by decide) ?_
        refine lv_iadd hx hb dL_law_607 ?_
        obtain ⟨hi119, hm⟩ := xifn hm
        refine va_sld hx hb hX hbl hbA hS hi119 dL_law_608 ?_
        refine lv_aload_n hx hb dL_law_609 rfl (lv_at hl 0 rfl) ?_
        refine lv_iload_n hx hb dL_law_610 rfl (lv_at hl 3 rfl) ?_
        refine lv_iconst (v := 2) hx hb dL_law_611 (by decide) ?_
        refine lv_iadd hx hb dL_law_612 ?_
        obtain ⟨hi120, hm⟩ := xifn hm
        refine va_sld hx hb hX hbl hbA hS hi120 dL_law_613 ?_
        obtain ⟨v121, hg, hm⟩ := xbnd hm
        refine xcallV xm_L_83 xt_X8_longest X hP hS (qX8_longest l w (xs (x3 + 1).toNatClampNeg) (xs (x3 + 2).toNatClampNeg) M v121 hg) xy0 rfl ⟨Nat.le_of_ble_eq_true rfl, Nat.le_of_ble_eq_true rfl⟩ ⟨rfl, rfl⟩ hl.1 rfl (rest := []) rfl (Nat.le_of_ble_eq_true rfl) dL_law_614 ⟨Nat.le_of_ble_eq_true rfl, Nat.le_of_ble_eq_true rfl⟩ (fun H locs hP hS => ?_)
        refine W.eq (g2 := F0 m 617 ls [.int v121]) rfl ?_
        refine lv_aload_n hx hb dL_law_617 rfl (lv_at hl 2 rfl) ?_
        refine lv_aload_n hx hb dL_law_618 rfl (lv_at hl 0 rfl) ?_
        refine lv_iload_n hx hb dL_law_619 rfl (lv_at hl 3 rfl) ?_
        refine lv_iconst (v := 1) hx hb dL_law_620 (by decide) ?_
        refine lv_iadd hx hb dL_law_621 ?_
        obtain ⟨hi122, hm⟩ := xifn hm
        refine va_sld hx hb hX hbl hbA hS hi122 dL_law_622 ?_
        refine lv_aload_n hx hb dL_law_623 rfl (lv_at hl 0 rfl) ?_
        refine lv_iload_n hx hb dL_law_624 rfl (lv_at hl 3 rfl) ?_
        refine lv_iconst (v := 2) hx hb dL_law_625 (by decide) ?_
        refine lv_iadd hx hb dL_law_626 ?_
        obtain ⟨hi123, hm⟩ := xifn hm
        refine va_sld hx hb hX hbl hbA hS hi123 dL_law_627 ?_
        obtain ⟨v124, hg, hm⟩ := xbnd hm
        refine xcallV xm_L_86 xt_X9_longest X hP hS (qX9_longest l w (xs (x3 + 1).toNatClampNeg) (xs (x3 + 2).toNatClampNeg) M v124 hg) xy37 rfl ⟨Nat.le_of_ble_eq_true rfl, Nat.le_of_ble_eq_true rfl⟩ ⟨rfl, rfl⟩ hl.1 rfl (rest := [.int v121]) rfl (Nat.le_of_ble_eq_true rfl) dL_law_628 ⟨Nat.le_of_ble_eq_true rfl, Nat.le_of_ble_eq_true rfl⟩ (fun H locs hP hS => ?_)
        refine W.eq (g2 := F0 m 631 ls [.int v124, .int v121]) rfl ?_
        refine lv_icmp_eq (tgt := 827) hx hb dL_law_631 (by decide) (fun c125 => ?_) (fun c125 => ?_)
        · have hm := xift c125 hm
          exact kL_law_827 X hX hbl hbA hz V hV (fL_law_18 xs L n) ih x3 M _ _ _ hm hP hS (lv_sub hl [0, 1, 2, 3] rfl)
        · have hm := xiff c125 hm
          refine lv_iconst (v := 0) hx hb dL_law_634 (by decide) ?_
          obtain rfl := Option.some.inj hm
          exact absurd hV (by decide)
      have hm := xiff c118 hm
      by_cases c126 : y3 = 17
      · have hm := xift c126 hm
        refine lv_tableIn (tgt := 636) (off := 603) hx hb dL_law_33 (by rw [c126]; decide) (by rw [c126]; decide) (by rw [c126]; rfl) (by decide) ?_
        refine lv_aload_n hx hb dL_law_636 rfl (lv_at hl 1 rfl) ?_
        refine lv_aload_n hx hb dL_law_637 rfl (lv_at hl 0 rfl) ?_
        refine lv_iload_n hx hb dL_law_638 rfl (lv_at hl 3 rfl) ?_
        refine lv_iconst (v := 1) hx hb dL_law_639 (by decide) ?_
        refine lv_iadd hx hb dL_law_640 ?_
        obtain ⟨hi127, hm⟩ := xifn hm
        refine va_sld hx hb hX hbl hbA hS hi127 dL_law_641 ?_
        refine lv_aload_n hx hb dL_law_642 rfl (lv_at hl 0 rfl) ?_
        refine lv_iload_n hx hb dL_law_643 rfl (lv_at hl 3 rfl) ?_
        refine lv_iconst (v := 2) hx hb dL_law_644 (by decide) ?_
        refine lv_iadd hx hb dL_law_645 ?_
        obtain ⟨hi128, hm⟩ := xifn hm
        refine va_sld hx hb hX hbl hbA hS hi128 dL_law_646 ?_
        obtain ⟨v129, hg, hm⟩ := xbnd hm
        refine xcallV xm_L_87 xt_X8_shared X hP hS (qX8_shared l w (xs (x3 + 1).toNatClampNeg) (xs (x3 + 2).toNatClampNeg) M v129 hg) xy0 rfl ⟨Nat.le_of_ble_eq_true rfl, Nat.le_of_ble_eq_true rfl⟩ ⟨rfl, rfl⟩ hl.1 rfl (rest := []) rfl (Nat.le_of_ble_eq_true rfl) dL_law_647 ⟨Nat.le_of_ble_eq_true rfl, Nat.le_of_ble_eq_true rfl⟩ (fun H locs hP hS => ?_)
        refine W.eq (g2 := F0 m 650 ls [.int v129]) rfl ?_
        refine lv_aload_n hx hb dL_law_650 rfl (lv_at hl 2 rfl) ?_
        refine lv_aload_n hx hb dL_law_651 rfl (lv_at hl 0 rfl) ?_
        refine lv_iload_n hx hb dL_law_652 rfl (lv_at hl 3 rfl) ?_
        refine lv_iconst (v := 1) hx hb dL_law_653 (by decide) ?_
        refine lv_iadd hx hb dL_law_654 ?_
        obtain ⟨hi130, hm⟩ := xifn hm
        refine va_sld hx hb hX hbl hbA hS hi130 dL_law_655 ?_
        refine lv_aload_n hx hb dL_law_656 rfl (lv_at hl 0 rfl) ?_
        refine lv_iload_n hx hb dL_law_657 rfl (lv_at hl 3 rfl) ?_
        refine lv_iconst (v := 2) hx hb dL_law_658 (by decide) ?_
        refine lv_iadd hx hb dL_law_659 ?_
        obtain ⟨hi131, hm⟩ := xifn hm
        refine va_sld hx hb hX hbl hbA hS hi131 dL_law_660 ?_
        obtain ⟨v132, hg, hm⟩ := xbnd hm
        refine xcallV xm_L_90 xt_X9_shared X hP hS (qX9_shared l w (xs (x3 + 1).toNatClampNeg) (xs (x3 + 2).toNatClampNeg) M v132 hg) xy37 rfl ⟨Nat.le_of_ble_eq_true rfl, Nat.le_of_ble_eq_true rfl⟩ ⟨rfl, rfl⟩ hl.1 rfl (rest := [.int v129]) rfl (Nat.le_of_ble_eq_true rfl) dL_law_661 ⟨Nat.le_of_ble_eq_true rfl, Nat.le_of_ble_eq_true rfl⟩ (fun H locs hP hS => ?_)
        refine W.eq (g2 := F0 m 664 ls [.int v132.1, .int v129]) rfl ?_
        refine lv_icmp_eq (tgt := 827) hx hb dL_law_664 (by decide) (fun c133 => ?_) (fun c133 => ?_)
        · have hm := xift c133 hm
          exact kL_law_827 X hX hbl hbA hz V hV (fL_law_18 xs L n) ih x3 v132.2 _ _ _ hm hP hS (lv_sub hl [0, 1, 2, 3] rfl)
        · have hm := xiff c133 hm
          refine lv_iconst (v := 0) hx hb dL_law_667 (by decide) ?_
          obtain rfl := Option.some.inj hm
          exact absurd hV (by decide)
      have hm := xiff c126 hm
      by_cases c134 : y3 = 18
      · have hm := xift c134 hm
        refine lv_tableIn (tgt := 669) (off := 636) hx hb dL_law_33 (by rw [c134]; decide) (by rw [c134]; decide) (by rw [c134]; rfl) (by decide) ?_
        refine lv_aload_n hx hb dL_law_669 rfl (lv_at hl 1 rfl) ?_
        refine lv_aload_n hx hb dL_law_670 rfl (lv_at hl 0 rfl) ?_
        refine lv_iload_n hx hb dL_law_671 rfl (lv_at hl 3 rfl) ?_
        refine lv_iconst (v := 1) hx hb dL_law_672 (by decide) ?_
        refine lv_iadd hx hb dL_law_673 ?_
        obtain ⟨hi135, hm⟩ := xifn hm
        refine va_sld hx hb hX hbl hbA hS hi135 dL_law_674 ?_
        obtain ⟨v136, hg, hm⟩ := xbnd hm
        refine xcallV xm_L_91 xt_X8_before X hP hS (qX8_before l w (xs (x3 + 1).toNatClampNeg) M v136 hg) xy0 rfl ⟨Nat.le_of_ble_eq_true rfl, Nat.le_of_ble_eq_true rfl⟩ ⟨rfl, rfl⟩ hl.1 rfl (rest := []) rfl (Nat.le_of_ble_eq_true rfl) dL_law_675 ⟨Nat.le_of_ble_eq_true rfl, Nat.le_of_ble_eq_true rfl⟩ (fun H locs hP hS => ?_)
        refine W.eq (g2 := F0 m 678 ls [.int v136]) rfl ?_
        refine lv_aload_n hx hb dL_law_678 rfl (lv_at hl 2 rfl) ?_
        refine lv_aload_n hx hb dL_law_679 rfl (lv_at hl 0 rfl) ?_
        refine lv_iload_n hx hb dL_law_680 rfl (lv_at hl 3 rfl) ?_
        refine lv_iconst (v := 1) hx hb dL_law_681 (by decide) ?_
        refine lv_iadd hx hb dL_law_682 ?_
        obtain ⟨hi137, hm⟩ := xifn hm
        refine va_sld hx hb hX hbl hbA hS hi137 dL_law_683 ?_
        obtain ⟨v138, hg, hm⟩ := xbnd hm
        refine xcallV xm_L_94 xt_X9_before X hP hS (qX9_before l w (xs (x3 + 1).toNatClampNeg) M v138 hg) xy37 rfl ⟨Nat.le_of_ble_eq_true rfl, Nat.le_of_ble_eq_true rfl⟩ ⟨rfl, rfl⟩ hl.1 rfl (rest := [.int v136]) rfl (Nat.le_of_ble_eq_true rfl) dL_law_684 ⟨Nat.le_of_ble_eq_true rfl, Nat.le_of_ble_eq_true rfl⟩ (fun H locs hP hS => ?_)
        refine W.eq (g2 := F0 m 687 ls [.int v138, .int v136]) rfl ?_
        refine lv_icmp_eq (tgt := 827) hx hb dL_law_687 (by decide) (fun c139 => ?_) (fun c139 => ?_)
        · have hm := xift c139 hm
          exact kL_law_827 X hX hbl hbA hz V hV (fL_law_18 xs L n) ih x3 M _ _ _ hm hP hS (lv_sub hl [0, 1, 2, 3] rfl)
        · have hm := xiff c139 hm
          refine lv_iconst (v := 0) hx hb dL_law_690 (by decide) ?_
          obtain rfl := Option.some.inj hm
          exact absurd hV (by decide)
      have hm := xiff c134 hm
      by_cases c140 : y3 = 19
      · have hm := xift c140 hm
        refine lv_tableIn (tgt := 692) (off := 659) hx hb dL_law_33 (by rw [c140]; decide) (by rw [c140]; decide) (by rw [c140]; rfl) (by decide) ?_
        refine lv_aload_n hx hb dL_law_692 rfl (lv_at hl 1 rfl) ?_
        refine lv_aload_n hx hb dL_law_693 rfl (lv_at hl 0 rfl) ?_
        refine lv_iload_n hx hb dL_law_694 rfl (lv_at hl 3 rfl) ?_
        refine lv_iconst (v := 1) hx hb dL_law_695 (by decide) ?_
        refine lv_iadd hx hb dL_law_696 ?_
        obtain ⟨hi141, hm⟩ := xifn hm
        refine va_sld hx hb hX hbl hbA hS hi141 dL_law_697 ?_
        obtain ⟨v142, hg, hm⟩ := xbnd hm
        refine xcallV xm_L_95 xt_X8_back X hP hS (qX8_back l w (xs (x3 + 1).toNatClampNeg) M v142 hg) xy0 rfl ⟨Nat.le_of_ble_eq_true rfl, Nat.le_of_ble_eq_true rfl⟩ ⟨rfl, rfl⟩ hl.1 rfl (rest := []) rfl (Nat.le_of_ble_eq_true rfl) dL_law_698 ⟨Nat.le_of_ble_eq_true rfl, Nat.le_of_ble_eq_true rfl⟩ (fun H locs hP hS => ?_)
        refine W.eq (g2 := F0 m 701 ls [.int v142]) rfl ?_
        refine lv_aload_n hx hb dL_law_701 rfl (lv_at hl 2 rfl) ?_
        refine lv_aload_n hx hb dL_law_702 rfl (lv_at hl 0 rfl) ?_
        refine lv_iload_n hx hb dL_law_703 rfl (lv_at hl 3 rfl) ?_
        refine lv_iconst (v := 1) hx hb dL_law_704 (by decide) ?_
        refine lv_iadd hx hb dL_law_705 ?_
        obtain ⟨hi143, hm⟩ := xifn hm
        refine va_sld hx hb hX hbl hbA hS hi143 dL_law_706 ?_
        obtain ⟨v144, hg, hm⟩ := xbnd hm
        refine xcallV xm_L_98 xt_X9_back X hP hS (qX9_back l w (xs (x3 + 1).toNatClampNeg) M v144 hg) xy37 rfl ⟨Nat.le_of_ble_eq_true rfl, Nat.le_of_ble_eq_true rfl⟩ ⟨rfl, rfl⟩ hl.1 rfl (rest := [.int v142]) rfl (Nat.le_of_ble_eq_true rfl) dL_law_707 ⟨Nat.le_of_ble_eq_true rfl, Nat.le_of_ble_eq_true rfl⟩ (fun H locs hP hS => ?_)
        refine W.eq (g2 := F0 m 710 ls [.int v144, .int v142]) rfl ?_
        refine lv_icmp_eq (tgt := 827) hx hb dL_law_710 (by decide) (fun c145 => ?_) (fun c145 => ?_)
        · have hm := xift c145 hm
          exact kL_law_827 X hX hbl hbA hz V hV (fL_law_18 xs L n) ih x3 M _ _ _ hm hP hS (lv_sub hl [0, 1, 2, 3] rfl)
        · have hm := xiff c145 hm
          refine lv_iconst (v := 0) hx hb dL_law_713 (by decide) ?_
          obtain rfl := Option.some.inj hm
          exact absurd hV (by decide)
      have hm := xiff c140 hm
      by_cases c146 : y3 = 20
      · have hm := xift c146 hm
        refine lv_tableIn (tgt := 715) (off := 682) hx hb dL_law_33 (by rw [c146]; decide) (by rw [c146]; decide) (by rw [c146]; rfl) (by decide) ?_
        refine lv_aload_n hx hb dL_law_715 rfl (lv_at hl 1 rfl) ?_
        refine lv_aload_n hx hb dL_law_716 rfl (lv_at hl 0 rfl) ?_
        refine lv_iload_n hx hb dL_law_717 rfl (lv_at hl 3 rfl) ?_
        refine lv_iconst (v := 1) hx hb dL_law_718 (by decide) ?_
        refine lv_iadd hx hb dL_law_719 ?_
        obtain ⟨hi147, hm⟩ := xifn hm
        refine va_sld hx hb hX hbl hbA hS hi147 dL_law_720 ?_
        refine lv_aload_n hx hb dL_law_721 rfl (lv_at hl 0 rfl) ?_
        refine lv_iload_n hx hb dL_law_722 rfl (lv_at hl 3 rfl) ?_
        refine lv_iconst (v := 2) hx hb dL_law_723 (by decide) ?_
        refine lv_iadd hx hb dL_law_724 ?_
        obtain ⟨hi148, hm⟩ := xifn hm
        refine va_sld hx hb hX hbl hbA hS hi148 dL_law_725 ?_
        obtain ⟨v149, hg, hm⟩ := xbnd hm
        refine xcallV xm_L_99 xt_X8_steps X hP hS (qX8_steps l w (xs (x3 + 1).toNatClampNeg) (xs (x3 + 2).toNatClampNeg) M v149 hg) xy0 rfl ⟨Nat.le_of_ble_eq_true rfl, Nat.le_of_ble_eq_true rfl⟩ ⟨rfl, rfl⟩ hl.1 rfl (rest := []) rfl (Nat.le_of_ble_eq_true rfl) dL_law_726 ⟨Nat.le_of_ble_eq_true rfl, Nat.le_of_ble_eq_true rfl⟩ (fun H locs hP hS => ?_)
        refine W.eq (g2 := F0 m 729 ls [.int v149]) rfl ?_
        refine lv_aload_n hx hb dL_law_729 rfl (lv_at hl 2 rfl) ?_
        refine lv_aload_n hx hb dL_law_730 rfl (lv_at hl 0 rfl) ?_
        refine lv_iload_n hx hb dL_law_731 rfl (lv_at hl 3 rfl) ?_
        refine lv_iconst (v := 1) hx hb dL_law_732 (by decide) ?_
        refine lv_iadd hx hb dL_law_733 ?_
        obtain ⟨hi150, hm⟩ := xifn hm
        refine va_sld hx hb hX hbl hbA hS hi150 dL_law_734 ?_
        refine lv_aload_n hx hb dL_law_735 rfl (lv_at hl 0 rfl) ?_
        refine lv_iload_n hx hb dL_law_736 rfl (lv_at hl 3 rfl) ?_
        refine lv_iconst (v := 2) hx hb dL_law_737 (by decide) ?_
        refine lv_iadd hx hb dL_law_738 ?_
        obtain ⟨hi151, hm⟩ := xifn hm
        refine va_sld hx hb hX hbl hbA hS hi151 dL_law_739 ?_
        obtain ⟨v152, hg, hm⟩ := xbnd hm
        refine xcallV xm_L_102 xt_X9_steps X hP hS (qX9_steps l w (xs (x3 + 1).toNatClampNeg) (xs (x3 + 2).toNatClampNeg) M v152 hg) xy37 rfl ⟨Nat.le_of_ble_eq_true rfl, Nat.le_of_ble_eq_true rfl⟩ ⟨rfl, rfl⟩ hl.1 rfl (rest := [.int v149]) rfl (Nat.le_of_ble_eq_true rfl) dL_law_740 ⟨Nat.le_of_ble_eq_true rfl, Nat.le_of_ble_eq_true rfl⟩ (fun H locs hP hS => ?_)
        refine W.eq (g2 := F0 m 743 ls [.int v152, .int v149]) rfl ?_
        refine lv_icmp_eq (tgt := 827) hx hb dL_law_743 (by decide) (fun c153 => ?_) (fun c153 => ?_)
        · have hm := xift c153 hm
          exact kL_law_827 X hX hbl hbA hz V hV (fL_law_18 xs L n) ih x3 M _ _ _ hm hP hS (lv_sub hl [0, 1, 2, 3] rfl)
        · have hm := xiff c153 hm
          refine lv_iconst (v := 0) hx hb dL_law_746 (by decide) ?_
          obtain rfl := Option.some.inj hm
          exact absurd hV (by decide)
      have hm := xiff c146 hm
      by_cases c154 : y3 = 21
      · have hm := xift c154 hm
        refine lv_tableIn (tgt := 748) (off := 715) hx hb dL_law_33 (by rw [c154]; decide) (by rw [c154]; decide) (by rw [c154]; rfl) (by decide) ?_
        refine lv_aload_n hx hb dL_law_748 rfl (lv_at hl 1 rfl) ?_
        refine lv_aload_n hx hb dL_law_749 rfl (lv_at hl 0 rfl) ?_
        refine lv_iload_n hx hb dL_law_750 rfl (lv_at hl 3 rfl) ?_
        refine lv_iconst (v := 1) hx hb dL_law_751 (by decide) ?_
        refine lv_iadd hx hb dL_law_752 ?_
        obtain ⟨hi155, hm⟩ := xifn hm
        refine va_sld hx hb hX hbl hbA hS hi155 dL_law_753 ?_
        refine lv_aload_n hx hb dL_law_754 rfl (lv_at hl 0 rfl) ?_
        refine lv_iload_n hx hb dL_law_755 rfl (lv_at hl 3 rfl) ?_
        refine lv_iconst (v := 2) hx hb dL_law_756 (by decide) ?_
        refine lv_iadd hx hb dL_law_757 ?_
        obtain ⟨hi156, hm⟩ := xifn hm
        refine va_sld hx hb hX hbl hbA hS hi156 dL_law_758 ?_
        obtain ⟨v157, hg, hm⟩ := xbnd hm
        refine xcallV xm_L_103 xt_X8_swap X hP hS (qX8_swap l w (xs (x3 + 1).toNatClampNeg) (xs (x3 + 2).toNatClampNeg) M v157 hg) xy0 rfl ⟨Nat.le_of_ble_eq_true rfl, Nat.le_of_ble_eq_true rfl⟩ ⟨rfl, rfl⟩ hl.1 rfl (rest := []) rfl (Nat.le_of_ble_eq_true rfl) dL_law_759 ⟨Nat.le_of_ble_eq_true rfl, Nat.le_of_ble_eq_true rfl⟩ (fun H locs hP hS => ?_)
        refine W.eq (g2 := F0 m 762 ls [.int v157.1]) rfl ?_
        refine lv_aload_n hx hb dL_law_762 rfl (lv_at hl 2 rfl) ?_
        refine lv_aload_n hx hb dL_law_763 rfl (lv_at hl 0 rfl) ?_
        refine lv_iload_n hx hb dL_law_764 rfl (lv_at hl 3 rfl) ?_
        refine lv_iconst (v := 1) hx hb dL_law_765 (by decide) ?_
        refine lv_iadd hx hb dL_law_766 ?_
        obtain ⟨hi158, hm⟩ := xifn hm
        refine va_sld hx hb hX hbl hbA hS hi158 dL_law_767 ?_
        refine lv_aload_n hx hb dL_law_768 rfl (lv_at hl 0 rfl) ?_
        refine lv_iload_n hx hb dL_law_769 rfl (lv_at hl 3 rfl) ?_
        refine lv_iconst (v := 2) hx hb dL_law_770 (by decide) ?_
        refine lv_iadd hx hb dL_law_771 ?_
        obtain ⟨hi159, hm⟩ := xifn hm
        refine va_sld hx hb hX hbl hbA hS hi159 dL_law_772 ?_
        obtain ⟨v160, hg, hm⟩ := xbnd hm
        refine xcallV xm_L_106 xt_X9_swap X hP hS (qX9_swap l w (xs (x3 + 1).toNatClampNeg) (xs (x3 + 2).toNatClampNeg) v157.2 v160 hg) xy37 rfl ⟨Nat.le_of_ble_eq_true rfl, Nat.le_of_ble_eq_true rfl⟩ ⟨rfl, rfl⟩ hl.1 rfl (rest := [.int v157.1]) rfl (Nat.le_of_ble_eq_true rfl) dL_law_773 ⟨Nat.le_of_ble_eq_true rfl, Nat.le_of_ble_eq_true rfl⟩ (fun H locs hP hS => ?_)
        refine W.eq (g2 := F0 m 776 ls [.int v160.1, .int v157.1]) rfl ?_
        refine lv_icmp_eq (tgt := 827) hx hb dL_law_776 (by decide) (fun c161 => ?_) (fun c161 => ?_)
        · have hm := xift c161 hm
          exact kL_law_827 X hX hbl hbA hz V hV (fL_law_18 xs L n) ih x3 v160.2 _ _ _ hm hP hS (lv_sub hl [0, 1, 2, 3] rfl)
        · have hm := xiff c161 hm
          refine lv_iconst (v := 0) hx hb dL_law_779 (by decide) ?_
          obtain rfl := Option.some.inj hm
          exact absurd hV (by decide)
      have hm := xiff c154 hm
      by_cases c162 : y3 = 22
      · have hm := xift c162 hm
        refine lv_tableIn (tgt := 781) (off := 748) hx hb dL_law_33 (by rw [c162]; decide) (by rw [c162]; decide) (by rw [c162]; rfl) (by decide) ?_
        refine lv_aload_n hx hb dL_law_781 rfl (lv_at hl 1 rfl) ?_
        refine lv_aload_n hx hb dL_law_782 rfl (lv_at hl 0 rfl) ?_
        refine lv_iload_n hx hb dL_law_783 rfl (lv_at hl 3 rfl) ?_
        refine lv_iconst (v := 1) hx hb dL_law_784 (by decide) ?_
        refine lv_iadd hx hb dL_law_785 ?_
        obtain ⟨hi163, hm⟩ := xifn hm
        refine va_sld hx hb hX hbl hbA hS hi163 dL_law_786 ?_
        refine lv_aload_n hx hb dL_law_787 rfl (lv_at hl 0 rfl) ?_
        refine lv_iload_n hx hb dL_law_788 rfl (lv_at hl 3 rfl) ?_
        refine lv_iconst (v := 2) hx hb dL_law_789 (by decide) ?_
        refine lv_iadd hx hb dL_law_790 ?_
        obtain ⟨hi164, hm⟩ := xifn hm
        refine va_sld hx hb hX hbl hbA hS hi164 dL_law_791 ?_
        obtain ⟨v165, hg, hm⟩ := xbnd hm
        refine xcallV xm_L_107 xt_X8_tell X hP hS (qX8_tell l w (xs (x3 + 1).toNatClampNeg) (xs (x3 + 2).toNatClampNeg) M v165 hg) xy0 rfl ⟨Nat.le_of_ble_eq_true rfl, Nat.le_of_ble_eq_true rfl⟩ ⟨rfl, rfl⟩ hl.1 rfl (rest := []) rfl (Nat.le_of_ble_eq_true rfl) dL_law_792 ⟨Nat.le_of_ble_eq_true rfl, Nat.le_of_ble_eq_true rfl⟩ (fun H locs hP hS => ?_)
        refine W.eq (g2 := F0 m 795 ls [.int v165.1]) rfl ?_
        refine lv_aload_n hx hb dL_law_795 rfl (lv_at hl 2 rfl) ?_
        refine lv_aload_n hx hb dL_law_796 rfl (lv_at hl 0 rfl) ?_
        refine lv_iload_n hx hb dL_law_797 rfl (lv_at hl 3 rfl) ?_
        refine lv_iconst (v := 1) hx hb dL_law_798 (by decide) ?_
        refine lv_iadd hx hb dL_law_799 ?_
        obtain ⟨hi166, hm⟩ := xifn hm
        refine va_sld hx hb hX hbl hbA hS hi166 dL_law_800 ?_
        refine lv_aload_n hx hb dL_law_801 rfl (lv_at hl 0 rfl) ?_
        refine lv_iload_n hx hb dL_law_802 rfl (lv_at hl 3 rfl) ?_
        refine lv_iconst (v := 2) hx hb dL_law_803 (by decide) ?_
        refine lv_iadd hx hb dL_law_804 ?_
        obtain ⟨hi167, hm⟩ := xifn hm
        refine va_sld hx hb hX hbl hbA hS hi167 dL_law_805 ?_
        obtain ⟨v168, hg, hm⟩ := xbnd hm
        refine xcallV xm_L_110 xt_X9_tell X hP hS (qX9_tell l w (xs (x3 + 1).toNatClampNeg) (xs (x3 + 2).toNatClampNeg) v165.2 v168 hg) xy37 rfl ⟨Nat.le_of_ble_eq_true rfl, Nat.le_of_ble_eq_true rfl⟩ ⟨rfl, rfl⟩ hl.1 rfl (rest := [.int v165.1]) rfl (Nat.le_of_ble_eq_true rfl) dL_law_806 ⟨Nat.le_of_ble_eq_true rfl, Nat.le_of_ble_eq_true rfl⟩ (fun H locs hP hS => ?_)
        refine W.eq (g2 := F0 m 809 ls [.int v168.1, .int v165.1]) rfl ?_
        refine lv_icmp_eq (tgt := 827) hx hb dL_law_809 (by decide) (fun c169 => ?_) (fun c169 => ?_)
        · have hm := xift c169 hm
          exact kL_law_827 X hX hbl hbA hz V hV (fL_law_18 xs L n) ih x3 v168.2 _ _ _ hm hP hS (lv_sub hl [0, 1, 2, 3] rfl)
        · have hm := xiff c169 hm
          refine lv_iconst (v := 0) hx hb dL_law_812 (by decide) ?_
          obtain rfl := Option.some.inj hm
          exact absurd hV (by decide)
      have hm := xiff c162 hm
      by_cases c170 : y3 = 23
      · have hm := xift c170 hm
        refine lv_tableIn (tgt := 814) (off := 781) hx hb dL_law_33 (by rw [c170]; decide) (by rw [c170]; decide) (by rw [c170]; rfl) (by decide) ?_
        refine lv_aload_n hx hb dL_law_814 rfl (lv_at hl 1 rfl) ?_
        obtain ⟨v171, hg, hm⟩ := xbnd hm
        refine xcallV xm_L_111 xt_X8_judge X hP hS (qX8_judge l w  M v171 hg) xy0 rfl ⟨Nat.le_of_ble_eq_true rfl, Nat.le_of_ble_eq_true rfl⟩ ⟨rfl, rfl⟩ hl.1 rfl (rest := []) rfl (Nat.le_of_ble_eq_true rfl) dL_law_815 ⟨Nat.le_of_ble_eq_true rfl, Nat.le_of_ble_eq_true rfl⟩ (fun H locs hP hS => ?_)
        refine W.eq (g2 := F0 m 818 ls [.int v171]) rfl ?_
        refine lv_aload_n hx hb dL_law_818 rfl (lv_at hl 2 rfl) ?_
        obtain ⟨v172, hg, hm⟩ := xbnd hm
        refine xcallV xm_L_114 xt_X9_judge X hP hS (qX9_judge l w  M v172 hg) xy37 rfl ⟨Nat.le_of_ble_eq_true rfl, Nat.le_of_ble_eq_true rfl⟩ ⟨rfl, rfl⟩ hl.1 rfl (rest := [.int v171]) rfl (Nat.le_of_ble_eq_true rfl) dL_law_819 ⟨Nat.le_of_ble_eq_true rfl, Nat.le_of_ble_eq_true rfl⟩ (fun H locs hP hS => ?_)
        refine W.eq (g2 := F0 m 822 ls [.int v172.1, .int v171]) rfl ?_
        refine lv_icmp_eq (tgt := 827) hx hb dL_law_822 (by decide) (fun c173 => ?_) (fun c173 => ?_)
        · have hm := xift c173 hm
          exact kL_law_827 X hX hbl hbA hz V hV (fL_law_18 xs L n) ih x3 v172.2 _ _ _ hm hP hS (lv_sub hl [0, 1, 2, 3] rfl)
        · have hm := xiff c173 hm
          refine lv_iconst (v := 0) hx hb dL_law_825 (by decide) ?_
          obtain rfl := Option.some.inj hm
          exact absurd hV (by decide)
      have hm := xiff c170 hm
      have gc4 := lv_neT (a := 0) c4 rfl
      have gc18 := lv_neT (a := 1) c18 rfl
      have gc26 := lv_neT (a := 2) c26 rfl
      have gc30 := lv_neT (a := 3) c30 rfl
      have gc36 := lv_neT (a := 4) c36 rfl
      have gc44 := lv_neT (a := 5) c44 rfl
      have gc50 := lv_neT (a := 6) c50 rfl
      have gc56 := lv_neT (a := 7) c56 rfl
      have gc62 := lv_neT (a := 8) c62 rfl
      have gc70 := lv_neT (a := 9) c70 rfl
      have gc78 := lv_neT (a := 10) c78 rfl
      have gc90 := lv_neT (a := 11) c90 rfl
      have gc94 := lv_neT (a := 12) c94 rfl
      have gc100 := lv_neT (a := 13) c100 rfl
      have gc106 := lv_neT (a := 14) c106 rfl
      have gc110 := lv_neT (a := 15) c110 rfl
      have gc118 := lv_neT (a := 16) c118 rfl
      have gc126 := lv_neT (a := 17) c126 rfl
      have gc134 := lv_neT (a := 18) c134 rfl
      have gc140 := lv_neT (a := 19) c140 rfl
      have gc146 := lv_neT (a := 20) c146 rfl
      have gc154 := lv_neT (a := 21) c154 rfl
      have gc162 := lv_neT (a := 22) c162 rfl
      have gc170 := lv_neT (a := 23) c170 rfl
      refine lv_tableOut (tgt := 827) hx hb dL_law_33 (by omega) (by decide) ?_
      exact kL_law_827 X hX hbl hbA hz V hV (fL_law_18 xs L n) ih x3 M _ _ _ hm hP hS (lv_sub hl [0, 1, 2, 3] rfl)
