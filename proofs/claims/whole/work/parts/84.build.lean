/-! BUILD, class and reference -/
def RP (M : xM) (m : Nat) (pt : Nat → Nat) : Prop := m ≤ 40 ∧ M 32 3 = nI m ∧ M 37 12 = nI m ∧ ∀ j, j < m → pt j ≤ 999 ∧ M 33 j = nI (pt j + 8) ∧ M 47 j = nI (pt j)
/-- what the class holds of the whole -/
def RBc (M : xM) (n : Nat) (T tx st en SA rk : Nat → Nat) (cp : Nat → Option Nat) (cl : Nat → Nat) : Prop := WFx n T tx st en ∧ PM n T SA rk ∧ RW M n T tx st en SA rk ∧ ∀ p, p < n → isCp n T p (cp p) (cl p) ∧ M 26 p = enc (cp p) ∧ M 27 p = nI (cl p) ∧ M 28 p = nI (pcx n T cl p)
/-- what the reference holds of it -/
def RBm (M : xM) (n : Nat) (T tx st SA rk : Nat → Nat) : Prop := LTm M n T tx st ∧ LCm M n T ∧ (∀ i, i < n → M 44 i = nI (SA i)) ∧ ∀ p, p < n → M 45 p = nI (rk p)
def RD (M : xM) (n : Nat) : Prop := ∀ i, i < n → M 36 i = M 46 i
/-- no text has more than 400 signs -/
def SGx (n : Nat) (tx en : Nat → Nat) : Prop := ∀ p, p < n → en (tx p) ≤ p + 400
def Rel (M : xM) : Prop := ∃ (ct : Nat → Nat) (sg : Nat → Nat → Nat) (n : Nat) (T tx st en SA rk : Nat → Nat) (cp : Nat → Option Nat) (cl : Nat → Nat) (m : Nat) (pt : Nat → Nat), RTc M ct sg ∧ RTm M ct sg ∧ RBc M n T tx st en SA rk cp cl ∧ RBm M n T tx st SA rk ∧ RD M n ∧ RP M m pt ∧ SGx n tx en
def TPx (ct : Nat → Nat) (sg : Nat → Nat → Nat) (T tx : Nat → Nat) : Prop := (∀ u i, u < 8 → i < ct u → T (posx ct u + i) = sg u i + 8 ∧ tx (posx ct u + i) = u) ∧ ∀ u, u < 8 → 0 < ct u → T (posx ct u + ct u) = u ∧ tx (posx ct u + ct u) = u
theorem tp_ex {A B : Nat → Int32} {ct : Nat → Nat} {sg : Nat → Nat → Nat} (hb : offx ct 8 ≤ 400) (hsg : ∀ t k, t < 8 → k < ct t → sg t k ≤ 999) (h1 : Laid A B ct sg nI (fun c => nI (c + 8)) 8 0) :
    ∃ T tx : Nat → Nat, WFx (posx ct 8) T tx (posx ct) (fun u => posx ct u + ct u) ∧ (∀ p, p < posx ct 8 → A p = nI (T p) ∧ B p = nI (tx p)) ∧ TPx ct sg T tx := by
  have h2 : Laid (fun p => wM (A p).toNatClampNeg) B ct sg eM nI 8 0 := by
    refine ⟨fun u i hu hi _ => ?_, fun u hu h8 h0 => ?_⟩
    · obtain ⟨a, b⟩ := h1.1 u i hu hi (Or.inl hu)
      have := hsg u i hu hi
      refine ⟨?_, b⟩
      show wM (A (posx ct u + i)).toNatClampNeg = nI (sg u i)
      rw [a, nI_clamp (by omega)]
      unfold wM
      rw [if_neg (by omega), Nat.add_sub_cancel]
    · obtain ⟨a, b⟩ := h1.2 u hu h8 h0
      refine ⟨?_, b⟩
      show wM (A (posx ct u + ct u)).toNatClampNeg = eM u
      rw [a, nI_clamp (by omega)]
      unfold wM
      rw [if_pos h8]
  obtain ⟨T, tx, hw, hAB⟩ := laid_wf hb hsg h1 h2
  have hlt : ∀ u i, u < 8 → i ≤ ct u → 0 < ct u → posx ct u + i < posx ct 8 := by
    intro u i hu hi h0
    have h3 := posx_mono ct (show u + 1 ≤ 8 by omega)
    simp only [posx] at h3 ⊢
    rw [if_neg (by omega)] at h3
    omega
  refine ⟨T, tx, hw, fun p hp => ⟨(hAB p hp).1, (hAB p hp).2.1⟩, fun u i hu hi => ?_, fun u hu h0 => ?_⟩
  · have hp := hlt u i hu (by omega) (by omega)
    have a := hAB _ hp
    have b := h1.1 u i hu hi (Or.inl hu)
    have c := hw.2.1 _ hp
    have := hsg u i hu hi
    rw [b.1] at a
    rw [b.2] at a
    exact ⟨((nI_eq_iff (by omega) (by omega)).mp a.1).symm, ((nI_eq_iff (by omega) (by omega)).mp a.2.1).symm⟩
  · have hp := hlt u (ct u) hu (Nat.le_refl _) h0
    have a := hAB _ hp
    have b := h1.2 u hu hu h0
    have c := hw.2.1 _ hp
    rw [b.1] at a
    rw [b.2] at a
    exact ⟨((nI_eq_iff (by omega) (by omega)).mp a.1).symm, ((nI_eq_iff (by omega) (by omega)).mp a.2.1).symm⟩
theorem tp_m {M : xM} {ct : Nat → Nat} {sg : Nat → Nat → Nat} {T tx : Nat → Nat} (hT : TPx ct sg T tx) (hS : LSm M ct sg 8 0) : LTm M (posx ct 8) T tx (posx ct) := by
  obtain ⟨s1, s2, s3⟩ := hS
  refine ⟨s1, fun p hp => ?_, fun t ht => s3 t ht⟩
  obtain ⟨u, i, hu, hi, h0, rfl⟩ := pos_find ct 8 p hp
  by_cases e : i = ct u
  · subst e
    obtain ⟨a, b⟩ := hT.2 u hu h0
    obtain ⟨c, d⟩ := s2.2 u hu hu h0
    rw [a, b, c, d]
    unfold wM
    rw [if_pos hu]
    exact ⟨rfl, rfl⟩
  · obtain ⟨a, b⟩ := hT.1 u i hu (by omega)
    obtain ⟨c, d⟩ := s2.1 u i hu (by omega) (Or.inl hu)
    rw [a, b, c, d]
    unfold wM
    rw [if_neg (by omega), Nat.add_sub_cancel]
    exact ⟨rfl, rfl⟩
/-- the class's build -/
theorem build_c {M : xM} {ct : Nat → Nat} {sg : Nat → Nat → Nat} (hR : RTc M ct sg) : ∃ (M2 : xM) (T tx SA rk : Nat → Nat) (cp : Nat → Option Nat) (cl : Nat → Nat), fX8_build M = some (nI (posx ct 8), M2) ∧ TPx ct sg T tx ∧ RBc M2 (posx ct 8) T tx (posx ct) (fun u => posx ct u + ct u) SA rk cp cl ∧ (∀ i, i < posx ct 8 → M2 36 i = nI (SA i)) ∧
    Kp [5, 6, 7, 8, 10, 11, 12, 14, 15, 16, 17, 18, 19, 20, 21, 22, 23, 24, 26, 27, 28, 29, 30, 31, 36] [(4, 4)] M M2 := by
  obtain ⟨M1, a1, a2, a3, a4⟩ := lay_ok hR
  obtain ⟨T, tx, hw, hAB, hTP⟩ := tp_ex hR.1 (fun t k ht hk => (hR.2.2.2 t k ht hk).1) a3.2.1
  have hL1 : LTc M1 (posx ct 8) T tx (posx ct) (fun u => posx ct u + ct u) := ⟨a3.1, hAB, fun t ht => a3.2.2 t ht⟩
  obtain ⟨M2, SA, rk, b1, b2, b3, b4, b5, b6⟩ := row_ok hw hL1
  have hL2 : LTc M2 (posx ct 8) T tx (posx ct) (fun u => posx ct u + ct u) := hL1.of (by rw [b6 4 (by decide)]) (b6 5 (by decide)) (b6 6 (by decide)) (b6 7 (by decide)) (b6 8 (by decide))
  have hRW : RW M2 (posx ct 8) T tx (posx ct) (fun u => posx ct u + ct u) SA rk := ⟨hL2, b3, b4, b5⟩
  obtain ⟨M3, cp, cl, c1, c2, c3⟩ := copies_ok hw b2 hRW
  have hRW3 := hRW.fr c3 (by decide) (by decide) (by decide) (by decide) (by decide) (by decide) (by decide) (by decide)
  obtain ⟨M4, e4⟩ : ∃ M4, M4 = xcp M3 10 36 0 0 (nI (posx ct 8)) := ⟨_, rfl⟩
  have F4 : Fr [36] M3 M4 := by rw [e4]; exact Fr.st (by decide)
  have hRW4 := hRW3.fr F4 (by decide) (by decide) (by decide) (by decide) (by decide) (by decide) (by decide) (by decide)
  have hn := hw.1
  have q0 : (0 : Int32).toNatClampNeg = 0 := by decide
  refine ⟨M4, T, tx, SA, rk, cp, cl, ?_, hTP, ⟨hw, b2, hRW4, fun p hp => ?_⟩, fun i hi => ?_, ?_⟩
  · have q3 : M3 4 4 = nI (posx ct 8) := hRW3.1.1
    have q4 : M4 4 4 = nI (posx ct 8) := hRW4.1.1
    have w : fX1_reset M3 = some M4 := by
      simp (disch := omega) only [fX1_reset_s, q3, xcin_00, and_self, if_pos, if_true, xlt_def, ← e4]
    rw [fX8_build_s, a1, Option.bind_some, b1, Option.bind_some, c1, Option.bind_some, w, Option.bind_some, q4]
  · rw [F4 26 (by decide), F4 27 (by decide), F4 28 (by decide)]
    exact c2 p hp
  · rw [e4, xcp_cell, q0, nI_clamp (by omega), if_pos (by omega), show 0 + (i - 0) = i by omega]
    exact hRW3.2.1 i hi
  · have g1 := a4.mono (ks2 := [5, 6, 7, 8, 10, 11, 12, 14, 15, 16, 17, 18, 19, 20, 21, 22, 23, 24, 26, 27, 28, 29, 30, 31, 36]) (js2 := [(4, 4)]) (fun k hk => by simp at hk ⊢; omega) (fun q hq => hq)
    have g2 : Kp [5, 6, 7, 8, 10, 11, 12, 14, 15, 16, 17, 18, 19, 20, 21, 22, 23, 24, 26, 27, 28, 29, 30, 31, 36] [(4, 4)] M1 M2 := Kp.fr (b6.mono (fun k hk => by simp at hk ⊢; omega))
    have g3 : Kp [5, 6, 7, 8, 10, 11, 12, 14, 15, 16, 17, 18, 19, 20, 21, 22, 23, 24, 26, 27, 28, 29, 30, 31, 36] [(4, 4)] M2 M3 := Kp.fr (c3.mono (fun k hk => by simp at hk ⊢; omega))
    have g4 : Kp [5, 6, 7, 8, 10, 11, 12, 14, 15, 16, 17, 18, 19, 20, 21, 22, 23, 24, 26, 27, 28, 29, 30, 31, 36] [(4, 4)] M3 M4 := Kp.fr (F4.mono (fun k hk => by simp at hk ⊢; omega))
    exact ((g1.tr g2).tr g3).tr g4
theorem rank_m {n : Nat} {T SA rk : Nat → Nat} (hn : n ≤ 408) (hP : PM n T SA rk) : ∀ (d i fuel : Nat) (M : xM), i + d = n → d < fuel → M 37 6 = nI n → (∀ j, j < n → M 44 j = nI (SA j)) → (∀ j, j < i → M 45 (SA j) = nI j ∧ M 46 j = nI (SA j)) →
    ∃ M2, fX9_build_299 fuel (nI i) M = fX9_build_337 M2 ∧ (∀ j, j < n → M2 45 (SA j) = nI j ∧ M2 46 j = nI (SA j)) ∧ Fr [45, 46] M M2 := by
  intro d
  induction d with
  | zero =>
    intro i fuel M hi hf h4 h10 h11
    obtain ⟨f, rfl⟩ : ∃ f, fuel = f + 1 := ⟨fuel - 1, by omega⟩
    exact ⟨M, by simp (disch := omega) only [fX9_build_299_s, h4, nI_le_iff, if_pos, if_true], fun j hj => h11 j (by omega), Fr.rf⟩
  | succ d ih =>
    intro i fuel M hi hf h4 h10 h11
    obtain ⟨f, rfl⟩ : ∃ f, fuel = f + 1 := ⟨fuel - 1, by omega⟩
    have hs := (hP.1 i (by omega)).1
    have h10i := h10 i (by omega)
    obtain ⟨M1, e1⟩ : ∃ M1, M1 = xs1 M 45 (SA i) (nI i) := ⟨_, rfl⟩
    obtain ⟨M2, e2⟩ : ∃ M2, M2 = xs1 M1 46 i (nI (SA i)) := ⟨_, rfl⟩
    have q1 : M1 44 i = nI (SA i) := by rw [e1, xs1_ne (by decide)]; exact h10i
    have F : Fr [45, 46] M M2 := by rw [e2, e1]; exact (Fr.s1 (by decide)).tr (Fr.s1 (by decide))
    obtain ⟨M3, a1, a2, a3⟩ := ih (i + 1) f M2 (by omega) (by omega) (by rw [F 37 (by decide)]; exact h4) (fun j hj => by rw [F 44 (by decide)]; exact h10 j hj) (fun j hj => by
      have g45 : M2 45 (SA j) = if SA j = SA i then nI i else M 45 (SA j) := by rw [e2, xs1_ne (by decide), e1, xs1_cell]
      have g46 : M2 46 j = if j = i then nI (SA i) else M 46 j := by rw [e2, xs1_cell, e1, xs1_ne (by decide)]
      rw [g45, g46]
      by_cases e : j = i
      · subst e; rw [if_pos rfl, if_pos rfl]; exact ⟨rfl, rfl⟩
      · have : SA j ≠ SA i := by
          intro h
          have x1 := (hP.1 j (by omega)).2
          have x2 := (hP.1 i (by omega)).2
          rw [h] at x1
          omega
        rw [if_neg this, if_neg e]
        exact h11 j (by omega))
    refine ⟨M3, ?_, a2, F.tr a3⟩
    simp (disch := omega) only [fX9_build_299_s, h4, nI_le_iff, if_neg, if_false, xin_nI, nI_clamp, h10i, if_pos, if_true, xlt_def, ← e1, q1, ← e2, nI_add1, a1]
/-- the reference's build -/
theorem build_m {M : xM} {ct : Nat → Nat} {sg : Nat → Nat → Nat} {T tx SA rk : Nat → Nat} (hR : RTm M ct sg) (hT : TPx ct sg T tx) (hw : WFx (posx ct 8) T tx (posx ct) (fun u => posx ct u + ct u)) (hP : PM (posx ct 8) T SA rk) : ∃ M2, fX9_build M = some (nI (posx ct 8), M2) ∧ RBm M2 (posx ct 8) T tx (posx ct) SA rk ∧ (∀ i, i < posx ct 8 → M2 46 i = nI (SA i)) ∧
    Kp [40, 41, 42, 43, 44, 45, 46] [(37, 6)] M M2 := by
  have hn := hw.1
  obtain ⟨M1, a1, a2, a3, a4⟩ := mlay_ok hR
  have hL1 := tp_m hT a3
  obtain ⟨M2, b1, b2, b3, b4⟩ := dp_out hw (posx ct 8) 4096 M1 (Nat.le_refl _) (by omega) hL1 (fun a b h1 h2 => by omega)
  obtain ⟨M3, o, c1, c2, c3, c4, c5, c6⟩ := ins_out hw (posx ct 8) 0 4096 M2 (fun _ => 0) (by omega) (by omega) b2 b3 ⟨fun i hi => by omega, fun i j _ hj => by omega, fun q hq => by omega⟩ (fun i hi => by omega)
  obtain ⟨rk2, hP2⟩ := PM.of_srt c4
  have hSA : ∀ i, i < posx ct 8 → o i = SA i := by
    intro i hi
    have := isSA.one hP2.sa hP.sa i hi
    exact Option.some.inj this
  have h44 : ∀ i, i < posx ct 8 → M3 44 i = nI (SA i) := fun i hi => by rw [c5 i hi, hSA i hi]
  obtain ⟨M4, d1, d2, d3⟩ := rank_m hn hP (posx ct 8) 0 4096 M3 (by omega) (by omega) c2.1 h44 (fun j hj => by omega)
  refine ⟨M4, ?_, ⟨c2.of (by rw [d3 37 (by decide)]) (d3 40 (by decide)) (d3 41 (by decide)) (d3 42 (by decide)), fun a b ha hb => by rw [d3 43 (by decide)]; exact c3 a b ha hb, fun i hi => by rw [d3 44 (by decide)]; exact h44 i hi, fun p hp => ?_⟩, fun i hi => (d2 i hi).2, ?_⟩
  · have h37 := hL1.1
    have q4 : M4 37 6 = nI (posx ct 8) := by rw [d3 37 (by decide)]; exact c2.1
    have c1' : fX9_build_234 4096 0 M2 = fX9_build_297 M3 := c1
    have d1' : fX9_build_299 4096 0 M3 = fX9_build_337 M4 := d1
    rw [a1, fX9_build_130_s, h37, b1, fX9_build_232_s, c1', fX9_build_297_s, d1', fX9_build_337_s, q4]
  · have := (d2 (rk p) (hP.2.1 p hp).1).1
    rw [(hP.2.1 p hp).2] at this
    exact this
  · have g1 := a4.mono (ks2 := [40, 41, 42, 43, 44, 45, 46]) (js2 := [(37, 6)]) (fun k hk => by simp at hk ⊢; omega) (fun q hq => hq)
    have g2 : Kp [40, 41, 42, 43, 44, 45, 46] [(37, 6)] M1 M2 := Kp.fr (b4.mono (fun k hk => by simp at hk ⊢; omega))
    have g3 : Kp [40, 41, 42, 43, 44, 45, 46] [(37, 6)] M2 M3 := Kp.fr (c6.mono (fun k hk => by simp at hk ⊢; omega))
    have g4 : Kp [40, 41, 42, 43, 44, 45, 46] [(37, 6)] M3 M4 := Kp.fr (d3.mono (fun k hk => by simp at hk ⊢; omega))
    exact ((g1.tr g2).tr g3).tr g4
theorem RP.kp {M M2 : xM} {m : Nat} {pt : Nat → Nat} (h : RP M m pt) (h32 : M2 32 3 = M 32 3) (h33 : M2 33 = M 33) (h37 : M2 37 12 = M 37 12) (h47 : M2 47 = M 47) : RP M2 m pt := by
  unfold RP
  rw [h32, h33, h37, h47]
  exact h
theorem RBc.kp {M M2 : xM} {n : Nat} {T tx st en SA rk : Nat → Nat} {cp : Nat → Option Nat} {cl : Nat → Nat} (h : RBc M n T tx st en SA rk cp cl) (h4 : M2 4 4 = M 4 4) (h5 : M2 5 = M 5) (h6 : M2 6 = M 6) (h7 : M2 7 = M 7) (h8 : M2 8 = M 8) (h10 : M2 10 = M 10) (h11 : M2 11 = M 11) (h12 : M2 12 = M 12) (h26 : M2 26 = M 26) (h27 : M2 27 = M 27) (h28 : M2 28 = M 28) : RBc M2 n T tx st en SA rk cp cl := by
  obtain ⟨a, b, c, d⟩ := h
  refine ⟨a, b, ⟨c.1.of h4 h5 h6 h7 h8, by rw [h10]; exact c.2.1, by rw [h11]; exact c.2.2.1, by rw [h12]; exact c.2.2.2⟩, ?_⟩
  rw [h26, h27, h28]
  exact d
theorem RBm.kp {M M2 : xM} {n : Nat} {T tx st SA rk : Nat → Nat} (h : RBm M n T tx st SA rk) (h37 : M2 37 6 = M 37 6) (h40 : M2 40 = M 40) (h41 : M2 41 = M 41) (h42 : M2 42 = M 42) (h43 : M2 43 = M 43) (h44 : M2 44 = M 44) (h45 : M2 45 = M 45) : RBm M2 n T tx st SA rk := by
  obtain ⟨a, b, c, d⟩ := h
  refine ⟨a.of h37 h40 h41 h42, ?_, by rw [h44]; exact c, by rw [h45]; exact d⟩
  unfold LCm
  rw [h43]
  exact b
/-- BUILD -/
theorem build_ok {M : xM} (h : Rel M) : ∃ (r : Int32) (M1 M2 : xM), fX8_build M = some (r, M1) ∧ fX9_build M1 = some (r, M2) ∧ Rel M2 := by
  obtain ⟨ct, sg, n, T0, tx0, st, en, SA0, rk0, cp0, cl0, m, pt, hc, hm, -, -, -, hp, -⟩ := h
  obtain ⟨M1, T, tx, SA, rk, cp, cl, a1, a2, a3, a4, a5⟩ := build_c hc
  have hm1 : RTm M1 ct sg := hm.kp (a5 37 (by decide) 2 (by decide)) (a5.cell (by decide) (fun j => by simp)) (a5.cell (by decide) (fun j => by simp))
  obtain ⟨M2, b1, b2, b3, b4⟩ := build_m hm1 a2 a3.1 a3.2.1
  have K : ∀ k, k < 37 → M2 k = M1 k := fun k hk => b4.cell (by simp; omega) (fun j => by simp; omega)
  refine ⟨nI (posx ct 8), M1, M2, a1, b1, ct, sg, posx ct 8, T, tx, posx ct, fun u => posx ct u + ct u, SA, rk, cp, cl, m, pt, ?_, ?_, ?_, b2, fun i hi => ?_, ?_, fun p hp => ?_⟩
  · refine hc.kp ?_ ?_ ?_ <;> rw [K _ (by decide)] <;> exact a5.cell (by decide) (fun j => by simp)
  · exact hm1.kp (b4 37 (by decide) 2 (by decide)) (b4.cell (by decide) (fun j => by simp)) (b4.cell (by decide) (fun j => by simp))
  · exact a3.kp (by rw [K 4 (by decide)]) (K 5 (by decide)) (K 6 (by decide)) (K 7 (by decide)) (K 8 (by decide)) (K 10 (by decide)) (K 11 (by decide)) (K 12 (by decide)) (K 26 (by decide)) (K 27 (by decide)) (K 28 (by decide))
  · rw [K 36 (by decide), a4 i hi, b3 i hi]
  · refine hp.kp ?_ ?_ ?_ ?_
    · rw [K 32 (by decide)]; exact a5 32 (by decide) 3 (by decide)
    · rw [K 33 (by decide)]; exact a5.cell (by decide) (fun j => by simp)
    · rw [b4 37 (by decide) 12 (by decide)]; exact a5 37 (by decide) 12 (by decide)
    · rw [b4.cell (k := 47) (by decide) (fun j => by simp)]; exact a5.cell (by decide) (fun j => by simp)
  · have a := a3.1.2.1 p hp
    have h1 : posx ct (tx p) ≤ p := a.2.2.1
    have h2 : offx ct (tx p + 1) = offx ct (tx p) + ct (tx p) := rfl
    have h3 := offx_mono ct (show tx p + 1 ≤ 8 by omega)
    have h4 := hc.1
    show posx ct (tx p) + ct (tx p) ≤ p + 400
    omega
