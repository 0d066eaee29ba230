theorem zlc1 : Cond.classLink RL 7 RX8 ∈ lw_tbl := List.mem_append_right _ (List.mem_of_getElem? (i := 15) (by decide +kernel))
theorem zlc2 : Cond.classLink RL 10 RX9 ∈ lw_tbl := List.mem_append_right _ (List.mem_of_getElem? (i := 620) (by decide +kernel))
theorem zlm1 : Cond.methodLink RL 9 yX8_init ∈ xG := xmG 17 (by decide +kernel) (by decide +kernel)
theorem zlm2 : Cond.methodLink RL 12 yX9_init ∈ xG := xmG 622 (by decide +kernel) (by decide +kernel)
theorem zk1_X8 : Cond.instantiable RX8 7 ∈ xG := xmG 16 (by decide +kernel) (by decide +kernel)
theorem zk2_X8 : Cond.initialized RX8 ∈ xG := xmG 1 (by decide +kernel) (by decide +kernel)
theorem zk3_X8 : Cond.code yX8_init cX8_init 1 none ∈ xG := xmG 19 (by decide +kernel) (by decide +kernel)
theorem zk4_X8 : Cond.instanceMethod yX8_init ∈ xG := xmG 18 (by decide +kernel) (by decide +kernel)
theorem zk1_X9 : Cond.instantiable RX9 15 ∈ xG := xmG 621 (by decide +kernel) (by decide +kernel)
theorem zk2_X9 : Cond.initialized RX9 ∈ xG := xmG 10 (by decide +kernel) (by decide +kernel)
theorem zk3_X9 : Cond.code yX9_init cX9_init 1 none ∈ xG := xmG 624 (by decide +kernel) (by decide +kernel)
theorem zk4_X9 : Cond.instanceMethod yX9_init ∈ xG := xmG 623 (by decide +kernel) (by decide +kernel)
theorem zn0 : Cond.methodLinkNest RX8 11 yX6_init RX8 ∈ lw_tbl := List.mem_append_right _ (List.mem_of_getElem? (i := 25) (by decide +kernel))
theorem zn1 : Cond.methodLinkNest RX8 18 yX7_init RX8 ∈ lw_tbl := List.mem_append_right _ (List.mem_of_getElem? (i := 46) (by decide +kernel))
theorem zn2 : Cond.methodLinkNest RX3 23 yX4_init RX8 ∈ lw_tbl := List.mem_append_right _ (List.mem_of_getElem? (i := 85) (by decide +kernel))
theorem zKs {args : Array Value} {s : State} (hts : ∀ v ∈ lw_tbl, v.before args s = true) : ∃ (D : va_G) (cI cZ : ClassId), va_K D vwCl [(cI, FieldType.int), (cZ, FieldType.boolean)] s := by
  obtain ⟨c0, iS0, hK0⟩ := u_known (C := RX0) (T := TX0) (N := 8) (n := 8) hts xiX0 (hts (.instantiable RX0 8) (List.mem_filter.mp zins_X0).1)
  obtain ⟨c1, iS1, hK1⟩ := u_known (C := RX1) (T := TX1) (N := 3) (n := 3) hts xiX1 (hts (.instantiable RX1 3) (List.mem_filter.mp zins_X1).1)
  obtain ⟨c2, iS2, hK2⟩ := u_known (C := RX2) (T := TX2) (N := 4) (n := 4) hts xiX2 (hts (.instantiable RX2 4) (List.mem_filter.mp zins_X2).1)
  obtain ⟨c3, iS3, hK3⟩ := u_known (C := RX3) (T := TX3) (N := 5) (n := 5) hts xiX3 (hts (.instantiable RX3 5) (List.mem_filter.mp zins_X3).1)
  obtain ⟨c4, iS4, hK4⟩ := u_known (C := RX4) (T := TX4) (N := 11) (n := 11) hts xiX4 (hts (.instantiable RX4 11) (List.mem_filter.mp zins_X4).1)
  obtain ⟨c5, iS5, hK5⟩ := u_known (C := RX5) (T := TX5) (N := 2) (n := 2) hts xiX5 (hts (.instantiable RX5 2) (List.mem_filter.mp zins_X5).1)
  obtain ⟨c6, iS6, hK6⟩ := u_known (C := RX6) (T := TX6) (N := 3) (n := 3) hts xiX6 (hts (.instantiable RX6 3) (List.mem_filter.mp zins_X6).1)
  obtain ⟨c7, iS7, hK7⟩ := u_known (C := RX7) (T := TX7) (N := 5) (n := 5) hts xiX7 (hts (.instantiable RX7 5) (List.mem_filter.mp zins_X7).1)
  obtain ⟨c8, iS8, hK8⟩ := u_known (C := RX8) (T := TX8) (N := 7) (n := 7) hts xiX8 (hts (.instantiable RX8 7) (List.mem_filter.mp zk1_X8).1)
  obtain ⟨c9, iS9, hK9⟩ := u_known (C := RX9) (T := TX9) (N := 15) (n := 15) hts xiX9 (hts (.instantiable RX9 15) (List.mem_filter.mp zk1_X9).1)
  obtain ⟨cI, kI, compI, i1, i2, i3⟩ := Cond.arrayClass_spec (hts (.arrayClass .int) (List.mem_filter.mp zai).1)
  obtain ⟨cZ, kZ, compZ, j1, j2, j3⟩ := Cond.arrayClass_spec (hts (.arrayClass .boolean) (List.mem_filter.mp zaz).1)
  refine ⟨(fun k => match k with | 0 => c0 | 1 => c1 | 2 => c2 | 3 => c3 | 4 => c4 | 5 => c5 | 6 => c6 | 7 => c7 | 8 => c8 | _ => c9, fun k => match k with | 0 => iS0 | 1 => iS1 | 2 => iS2 | 3 => iS3 | 4 => iS4 | 5 => iS5 | 6 => iS6 | 7 => iS7 | 8 => iS8 | _ => iS9), cI, cZ, ?_, ?_⟩
  · intro k q hq
    match k, hq with
    | 0, hq => cases hq; exact hK0
    | 1, hq => cases hq; exact hK1
    | 2, hq => cases hq; exact hK2
    | 3, hq => cases hq; exact hK3
    | 4, hq => cases hq; exact hK4
    | 5, hq => cases hq; exact hK5
    | 6, hq => cases hq; exact hK6
    | 7, hq => cases hq; exact hK7
    | 8, hq => cases hq; exact hK8
    | 9, hq => cases hq; exact hK9
    | k + 10, hq => simp [vwCl] at hq
  · intro k q hq
    match k, hq with
    | 0, hq => cases hq; exact ⟨fun n z => ⟨fun k h => (by cases h), kI, i2, compI, i3⟩, i1⟩
    | 1, hq => cases hq; exact ⟨fun n z => ⟨fun k h => (by cases h), kZ, j2, compZ, j3⟩, j1⟩
    | k + 2, hq => simp at hq
set_option maxHeartbeats 8000000 in
set_option maxRecDepth 100000 in
/-- THE LAW, from its entry -/
theorem whole_start {p : Program} {e : Env} {s : State} {m : MethodId} {below : List Frame} {meth : Method} {c : Code} (l : Launch) {b L : Nat} {xs : Nat → Int32} (hL : L ≤ 3072) (C0 : lw_At p s m meth c b L xs) : W p l e room_1 s m #[Value.ref b] below meth c s.heap [] 0 0 (lw_Z below #[Value.ref b] s) (entryFrame m ([Value.ref b] : List Value).toArray 4) := by
  obtain ⟨hx, hb, hr, hml, hown, hts0, hX, hbl, hlocks, hgv⟩ := id C0
  have hts := xG_of hts0
  obtain ⟨D, cI, cZ, hK⟩ := zKs hts0
  have hN : zN s := ⟨va_Nw.of rfl (hts0 _ zn0), va_Nw.of rfl (hts0 _ zn1), va_Nw.of rfl (hts0 _ zn2)⟩
  obtain ⟨z0, hz0⟩ : ∃ z0, z0 = s.heap.size := ⟨_, rfl⟩
  have hz : z0 ≤ s.heap.size := Nat.le_of_eq hz0
  have hA : ∀ q : Nat, s.heap.size ≤ q → z0 ≤ q := fun q h => Nat.le_trans hz h
  have hbA : ¬ z0 ≤ b := by rw [hz0]; exact Nat.not_le.mpr hbl
  have hS : va_S (fun q : Nat => z0 ≤ q) s.heap s.heap [] := va_S.rf
  have hP : va_P D vwCl [] s.heap := fun k q h => by simp at h
  have hD : va_D (fun q : Nat => z0 ≤ q) [] := ⟨fun i j p q h => by simp at h, fun k q h => by simp at h⟩
  have hl := lv_entry ([.ref b]) (n := 4) (Nat.le_of_ble_eq_true rfl)
  rw [lg_entry_eq]
  generalize (lg_sl ([.ref b]) ++ List.replicate (4 - (lg_sl ([.ref b])).length) Slot.unset).toArray = ls at hl ⊢
  have hl : lv_has ls 4 [(0, .ref b)] := hl
  refine va_new (ci := 8) (fs := [.null, .null, .null, .null, .null, .null, .null]) (C := RX8) (T := TX8) (N := 7) hx hb hts xcX8.1 tyX8 tyX8_ok hown (hts0 _ zlc1) (hts _ zk1_X8) (hts _ zk2_X8) hK hP hD hS hA rfl (fun j hj => by rcases (show j = 0 ∨ j = 1 ∨ j = 2 ∨ j = 3 ∨ j = 4 ∨ j = 5 ∨ j = 6 by omega) with rfl | rfl | rfl | rfl | rfl | rfl | rfl <;> rfl) (Nat.le_of_ble_eq_true rfl) (Nat.le_of_ble_eq_true rfl) dL_law_0 (fun a0 H hP hD hS => ?_)
  refine W.cs (cells' := 1) (slots' := 7) rfl rfl ?_
  refine lv_dup hx hb dL_law_3 rfl ?_
  have hP : va_P D vwCl [(a0, .inr (8, [.null, .null, .null, .null, .null, .null, .null]))] H := hP
  have hD : va_D (fun q : Nat => z0 ≤ q) [(a0, .inr (8, [.null, .null, .null, .null, .null, .null, .null]))] := hD
  refine zgo (va_runI (As := []) (rest := [.ref a0]) (g := F0 m 4 ls [.ref a0, .ref a0]) ⟨hx, hb, hml, hown, hts⟩ (zX8_init l D cI cZ z0 a0) ⟨callB_of 0 hts (xG_good zk3_X8) rfl rfl rfl (hts _ zk2_X8) (hts _ zlm1) ⟨by decide, by decide, by decide⟩ ⟨Nat.le_of_ble_eq_true rfl, Nat.le_of_ble_eq_true rfl⟩, rfl, hts _ zk4_X8⟩ ⟨zblind, fun U hU hW => ⟨rfl, by rw [hU]; exact hP, va_K.moved hW.alike hK, hD, by rw [hU]; exact Nat.le_trans hz hS.1, zNw hW hN⟩⟩ rfl rfl hl.1 rfl (lv_room (Nat.le_of_ble_eq_true rfl)) dL_law_4 ⟨Nat.le_of_ble_eq_true rfl, Nat.le_of_ble_eq_true rfl⟩) hS (fun H locs hPost hS => ?_)
  obtain ⟨a1, a2, a3, a4, a5, a6, a7, a8, a9, a10, a11, a12, a13, a14, a15, a16, a17, a18, a19, a20, a21, a22, a23, a24, a25, a26, a27, a28, a29, a30, a31, a32, a33, a34, a35, a36, hP, hD⟩ := hPost
  refine W.cs (cells' := 37) (slots' := 11130) rfl rfl ?_
  refine lv_astore_n (lv' := [(1, .ref a0), (0, .ref b)]) hx hb dL_law_7 rfl hl (by decide) rfl (fun ls hl => ?_)
  refine va_new (ci := 9) (fs := [.null, .null, .int 0, .null, .null, .null, .int 0, .null, .null, .null, .null, .null, .int 0, .null, .null]) (C := RX9) (T := TX9) (N := 15) hx hb hts xcX9.1 tyX9 tyX9_ok hown (hts0 _ zlc2) (hts _ zk1_X9) (hts _ zk2_X9) hK hP hD hS hA rfl (fun j hj => by rcases (show j = 0 ∨ j = 1 ∨ j = 2 ∨ j = 3 ∨ j = 4 ∨ j = 5 ∨ j = 6 ∨ j = 7 ∨ j = 8 ∨ j = 9 ∨ j = 10 ∨ j = 11 ∨ j = 12 ∨ j = 13 ∨ j = 14 by omega) with rfl | rfl | rfl | rfl | rfl | rfl | rfl | rfl | rfl | rfl | rfl | rfl | rfl | rfl | rfl <;> rfl) (Nat.le_of_ble_eq_true rfl) (Nat.le_of_ble_eq_true rfl) dL_law_8 (fun a37 H hP hD hS => ?_)
  refine W.cs (cells' := 38) (slots' := 11145) rfl rfl ?_
  refine lv_dup hx hb dL_law_11 rfl ?_
  have hP : va_P D vwCl [(a0, .inr (8, [.ref a1, .ref a4, .ref a9, .ref a25, .ref a32, .ref a34, .ref a35])), (a1, .inr (6, [.ref a2, .ref a3, .int 0])), (a2, .inl (cI, 400, .inl (fun _ => 0))), (a3, .inl (cI, 8, .inl (fun _ => 0))), (a4, .inr (7, [.ref a5, .ref a6, .ref a7, .ref a8, .int 0])), (a5, .inl (cI, 408, .inl (fun _ => 0))), (a6, .inl (cI, 408, .inl (fun _ => 0))), (a7, .inl (cI, 8, .inl (fun _ => 0))), (a8, .inl (cI, 8, .inl (fun _ => 0))), (a9, .inr (3, [.ref a10, .ref a11, .ref a12, .ref a4, .ref a13])), (a10, .inl (cI, 408, .inl (fun _ => 0))), (a11, .inl (cI, 408, .inl (fun _ => 0))), (a12, .inl (cI, 408, .inl (fun _ => 0))), (a13, .inr (4, [.ref a14, .ref a15, .ref a16, .ref a17, .ref a18, .ref a19, .ref a20, .ref a21, .ref a22, .ref a23, .ref a24])), (a14, .inl (cI, 408, .inl (fun _ => 0))), (a15, .inl (cI, 816, .inl (fun _ => 0))), (a16, .inl (cZ, 816, .inl (fun _ => 0))), (a17, .inl (cI, 816, .inl (fun _ => 0))), (a18, .inl (cI, 11, .inl (fun _ => 0))), (a19, .inl (cI, 11, .inl (fun _ => 0))), (a20, .inl (cI, 11, .inl (fun _ => 0))), (a21, .inl (cI, 408, .inl (fun _ => 0))), (a22, .inl (cI, 408, .inl (fun _ => 0))), (a23, .inl (cI, 1009, .inl (fun _ => 0))), (a24, .inl (cI, 1008, .inl (fun _ => 0))), (a25, .inr (0, [.ref a26, .ref a27, .ref a28, .ref a4, .ref a9, .ref a29, .ref a30, .ref a31])), (a26, .inl (cI, 408, .inl (fun _ => 0))), (a27, .inl (cI, 408, .inl (fun _ => 0))), (a28, .inl (cI, 408, .inl (fun _ => 0))), (a29, .inl (cI, 408, .inl (fun _ => 0))), (a30, .inl (cI, 408, .inl (fun _ => 0))), (a31, .inl (cI, 408, .inl (fun _ => 0))), (a32, .inr (2, [.ref a33, .ref a4, .ref a9, .int 0])), (a33, .inl (cI, 40, .inl (fun _ => 0))), (a34, .inr (5, [.ref a4, .ref a9])), (a35, .inr (1, [.ref a36, .ref a4, .ref a9])), (a36, .inl (cI, 408, .inl (fun _ => 0))), (a37, .inr (9, [.null, .null, .int 0, .null, .null, .null, .int 0, .null, .null, .null, .null, .null, .int 0, .null, .null]))] H := hP
  have hD : va_D (fun q : Nat => z0 ≤ q) [(a0, .inr (8, [.ref a1, .ref a4, .ref a9, .ref a25, .ref a32, .ref a34, .ref a35])), (a1, .inr (6, [.ref a2, .ref a3, .int 0])), (a2, .inl (cI, 400, .inl (fun _ => 0))), (a3, .inl (cI, 8, .inl (fun _ => 0))), (a4, .inr (7, [.ref a5, .ref a6, .ref a7, .ref a8, .int 0])), (a5, .inl (cI, 408, .inl (fun _ => 0))), (a6, .inl (cI, 408, .inl (fun _ => 0))), (a7, .inl (cI, 8, .inl (fun _ => 0))), (a8, .inl (cI, 8, .inl (fun _ => 0))), (a9, .inr (3, [.ref a10, .ref a11, .ref a12, .ref a4, .ref a13])), (a10, .inl (cI, 408, .inl (fun _ => 0))), (a11, .inl (cI, 408, .inl (fun _ => 0))), (a12, .inl (cI, 408, .inl (fun _ => 0))), (a13, .inr (4, [.ref a14, .ref a15, .ref a16, .ref a17, .ref a18, .ref a19, .ref a20, .ref a21, .ref a22, .ref a23, .ref a24])), (a14, .inl (cI, 408, .inl (fun _ => 0))), (a15, .inl (cI, 816, .inl (fun _ => 0))), (a16, .inl (cZ, 816, .inl (fun _ => 0))), (a17, .inl (cI, 816, .inl (fun _ => 0))), (a18, .inl (cI, 11, .inl (fun _ => 0))), (a19, .inl (cI, 11, .inl (fun _ => 0))), (a20, .inl (cI, 11, .inl (fun _ => 0))), (a21, .inl (cI, 408, .inl (fun _ => 0))), (a22, .inl (cI, 408, .inl (fun _ => 0))), (a23, .inl (cI, 1009, .inl (fun _ => 0))), (a24, .inl (cI, 1008, .inl (fun _ => 0))), (a25, .inr (0, [.ref a26, .ref a27, .ref a28, .ref a4, .ref a9, .ref a29, .ref a30, .ref a31])), (a26, .inl (cI, 408, .inl (fun _ => 0))), (a27, .inl (cI, 408, .inl (fun _ => 0))), (a28, .inl (cI, 408, .inl (fun _ => 0))), (a29, .inl (cI, 408, .inl (fun _ => 0))), (a30, .inl (cI, 408, .inl (fun _ => 0))), (a31, .inl (cI, 408, .inl (fun _ => 0))), (a32, .inr (2, [.ref a33, .ref a4, .ref a9, .int 0])), (a33, .inl (cI, 40, .inl (fun _ => 0))), (a34, .inr (5, [.ref a4, .ref a9])), (a35, .inr (1, [.ref a36, .ref a4, .ref a9])), (a36, .inl (cI, 408, .inl (fun _ => 0))), (a37, .inr (9, [.null, .null, .int 0, .null, .null, .null, .int 0, .null, .null, .null, .null, .null, .int 0, .null, .null]))] := hD
  refine zgo (va_runI (As := []) (rest := [.ref a37]) (g := F0 m 12 ls [.ref a37, .ref a37]) ⟨hx, hb, hml, hown, hts⟩ (zX9_init l D cI cZ z0 a0 a1 a2 a3 a4 a5 a6 a7 a8 a9 a10 a11 a12 a13 a14 a15 a16 a17 a18 a19 a20 a21 a22 a23 a24 a25 a26 a27 a28 a29 a30 a31 a32 a33 a34 a35 a36 a37) ⟨callB_of 0 hts (xG_good zk3_X9) rfl rfl rfl (hts _ zk2_X9) (hts _ zlm2) ⟨by decide, by decide, by decide⟩ ⟨Nat.le_of_ble_eq_true rfl, Nat.le_of_ble_eq_true rfl⟩, rfl, hts _ zk4_X9⟩ ⟨zblind, fun U hU hW => ⟨rfl, by rw [hU]; exact hP, va_K.moved hW.alike hK, hD, by rw [hU]; exact Nat.le_trans hz hS.1, zNw hW hN⟩⟩ rfl rfl hl.1 rfl (lv_room (Nat.le_of_ble_eq_true rfl)) dL_law_12 ⟨Nat.le_of_ble_eq_true rfl, Nat.le_of_ble_eq_true rfl⟩) hS (fun H locs hPost hS => ?_)
  obtain ⟨a38, a39, a40, a41, a42, a43, a44, a45, a46, a47, a48, a49, hP, hD⟩ := hPost
  refine W.cs (cells' := 50) (slots' := 183321) rfl rfl ?_
  refine lv_astore_n (lv' := [(2, .ref a37), (1, .ref a0), (0, .ref b)]) hx hb dL_law_15 rfl hl (by decide) rfl (fun ls hl => ?_)
  refine lv_iconst (v := 0) hx hb dL_law_16 (by decide) ?_
  refine lv_istore_n (lv' := [(3, .int 0), (2, .ref a37), (1, .ref a0), (0, .ref b)]) hx hb dL_law_17 rfl hl (by decide) rfl (fun ls hl => ?_)
  obtain ⟨w, hw⟩ : ∃ w : xT, w = (D, cI, cZ, (fun k => ([a0, a1, a2, a3, a4, a5, a6, a7, a8, a9, a10, a11, a12, a13, a14, a15, a16, a17, a18, a19, a20, a21, a22, a23, a24, a25, a26, a27, a28, a29, a30, a31, a32, a33, a34, a35, a36, a37, a38, a39, a40, a41, a42, a43, a44, a45, a46, a47, a48, a49] : List Nat).getD k 0), z0) := ⟨_, rfl⟩
  have hP2 : xP w (fun _ _ => 0) H := by rw [hw]; exact hP
  have hD2 : va_D (xA w) (xws w (fun _ _ => 0)) := by rw [hw]; exact hD
  have X : xX p s m #[Value.ref b] meth c cL_law 4 ret RL w := ⟨hx, hb, hml, hr, hlocks, hown, hts, by rw [hw]; exact hK, xD.of hD2⟩
  have hl2 : lv_has ls 4 [(0, .ref b), (1, .ref (xa w 0)), (2, .ref (xa w 37)), (3, .int 0)] := by rw [hw]; exact lv_sub hl [3, 2, 1, 0] rfl
  exact kL_law_18 X hX hbl (by rw [hw]; exact hbA) (by rw [hw]; exact hz0) 1 rfl 4096 0 (fun _ _ => 0) H _ ls (law_pure xs L hL) hP2 (by rw [hw]; exact hS) hl2
