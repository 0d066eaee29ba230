/-! PATTERN, WIPE, SWAP, TELL, JUDGE -/
def apT (pt : Nat → Nat) (m : Nat) (x : Int32) : Nat → Nat := if x = -1 then pt else fup pt m x.toNatClampNeg
def RPc (M : xM) (m : Nat) (pt : Nat → Nat) : Prop := M 32 3 = nI m ∧ ∀ j, j < m → pt j ≤ 999 ∧ M 33 j = nI (pt j + 8)
def RPm (M : xM) (m : Nat) (pt : Nat → Nat) : Prop := M 37 12 = nI m ∧ ∀ j, j < m → pt j ≤ 999 ∧ M 47 j = nI (pt j)
theorem app_c {M : xM} {m : Nat} {pt : Nat → Nat} (h : RPc M m pt) {x : Int32} (hx : okS x) (hr : m + cS x ≤ 40) : ∃ M2, fX2_append x M = some M2 ∧ RPc M2 (m + cS x) (apT pt m x) ∧ Kp [33] [(32, 3)] M M2 := by
  rcases okS_cases hx with e | ⟨s, hs, e⟩
  · subst e
    refine ⟨M, ?_, ?_, Kp.rf⟩
    · rw [fX2_append_s, if_pos rfl]
    · unfold apT cS; rw [if_pos rfl, if_pos rfl]; exact h
  · subst e
    have hne := nI_nem1 (a := s) (by omega)
    unfold cS at hr ⊢
    rw [if_neg hne] at hr
    unfold apT
    rw [if_neg hne, if_neg hne, nI_clamp (by omega)]
    obtain ⟨h1, h2⟩ := h
    have e8 : (8 : Int32) = nI 8 := rfl
    have e40 : (40 : Int32) = nI 40 := rfl
    obtain ⟨M1, e1⟩ : ∃ M1, M1 = xs1 M 33 m (nI (s + 8)) := ⟨_, rfl⟩
    have q1 : M1 32 3 = nI m := by rw [e1, xs1_ne (by decide)]; exact h1
    obtain ⟨M2, e2⟩ : ∃ M2, M2 = xs1 M1 32 3 (nI (m + 1)) := ⟨_, rfl⟩
    have K1 : Kp [33] [(32, 3)] M M1 := by rw [e1]; exact Kp.s1 (by decide)
    have K2 : Kp [33] [(32, 3)] M1 M2 := by rw [e2]; exact Kp.s2 (by decide)
    refine ⟨M2, ?_, ⟨by rw [e2, xs1_self], fun j hj => ?_⟩, K1.tr K2⟩
    · simp (disch := omega) only [fX2_append_s, hne, if_false, h1, e40, e8, nI_lt_iff, if_pos, xin_nI, nI_clamp, nI_plus, xlt_def, ← e1, q1, nI_add1, ← e2]
    · have : M2 33 j = if j = m then nI (s + 8) else M 33 j := by rw [e2, xs1_ne (by decide), e1, xs1_cell]
      rw [this]
      unfold fup
      by_cases g : j = m
      · rw [if_pos g, if_pos g]; exact ⟨hs, rfl⟩
      · rw [if_neg g, if_neg g]; exact h2 j (by omega)
theorem app_m {M : xM} {m : Nat} {pt : Nat → Nat} (h : RPm M m pt) {x : Int32} (hx : okS x) (hr : m + cS x ≤ 40) : ∃ M2, (∀ (k52 : Int32 → Int32 → Int32 → Int32 → Int32 → xM → Option (Int32 × xM)) (x1 x2 x3 x4 x5 : Int32), fX9_pattern_89 k52 x1 x2 x3 x4 x5 x M = k52 x1 x2 x3 x4 (x5 + 1) M2) ∧ RPm M2 (m + cS x) (apT pt m x) ∧ Kp [47] [(37, 12)] M M2 := by
  rcases okS_cases hx with e | ⟨s, hs, e⟩
  · subst e
    refine ⟨M, ?_, ?_, Kp.rf⟩
    · intro k52 x1 x2 x3 x4 x5
      rw [fX9_pattern_89_s, if_pos (by decide), fX9_pattern_117_s]
    · unfold apT cS; rw [if_pos rfl, if_pos rfl]; exact h
  · subst e
    have hne := nI_nem1 (a := s) (by omega)
    unfold cS at hr ⊢
    rw [if_neg hne] at hr
    unfold apT
    rw [if_neg hne, if_neg hne, nI_clamp (by omega)]
    obtain ⟨h1, h2⟩ := h
    have z : ¬ nI s < 0 := nI_pos (by omega)
    obtain ⟨M1, e1⟩ : ∃ M1, M1 = xs1 M 47 m (nI s) := ⟨_, rfl⟩
    have q1 : M1 37 12 = nI m := by rw [e1, xs1_ne (by decide)]; exact h1
    obtain ⟨M2, e2⟩ : ∃ M2, M2 = xs1 M1 37 12 (nI (m + 1)) := ⟨_, rfl⟩
    have K1 : Kp [47] [(37, 12)] M M1 := by rw [e1]; exact Kp.s1 (by decide)
    have K2 : Kp [47] [(37, 12)] M1 M2 := by rw [e2]; exact Kp.s2 (by decide)
    refine ⟨M2, ?_, ⟨by rw [e2, xs1_self], fun j hj => ?_⟩, K1.tr K2⟩
    · intro k52 x1 x2 x3 x4 x5
      simp (disch := omega) only [fX9_pattern_89_s, z, if_false, h1, if_pos, xin_nI, nI_clamp, xlt_def, ← e1, q1, nI_add1, ← e2, fX9_pattern_117_s]
    · have : M2 47 j = if j = m then nI s else M 47 j := by rw [e2, xs1_ne (by decide), e1, xs1_cell]
      rw [this]
      unfold fup
      by_cases g : j = m
      · rw [if_pos g, if_pos g]; exact ⟨hs, rfl⟩
      · rw [if_neg g, if_neg g]; exact h2 j (by omega)
theorem pattern_ok {M : xM} {m : Nat} {pt : Nat → Nat} (h : RP M m pt) (a b c d : Int32) : ∃ (r : Int32) (M1 M2 : xM) (m2 : Nat) (pt2 : Nat → Nat), fX8_pattern a b c d M = some (r, M1) ∧ fX9_pattern a b c d M1 = some (r, M2) ∧ RP M2 m2 pt2 ∧ Kp [33, 47] [(32, 3), (37, 12)] M M2 := by
  obtain ⟨hm, h1, h2, h3⟩ := h
  have no : ∀ (h1 : fX8_pattern a b c d M = some (-1, M)) (h2 : fX9_pattern a b c d M = some (-1, M)), ∃ (r : Int32) (M1 M2 : xM) (m2 : Nat) (pt2 : Nat → Nat), fX8_pattern a b c d M = some (r, M1) ∧ fX9_pattern a b c d M1 = some (r, M2) ∧ RP M2 m2 pt2 ∧ Kp [33, 47] [(32, 3), (37, 12)] M M2 :=
    fun g1 g2 => ⟨-1, M, M, m, pt, g1, g2, ⟨hm, h1, h2, h3⟩, Kp.rf⟩
  by_cases ho : okS a ∧ okS b ∧ okS c ∧ okS d
  · obtain ⟨oa, ob, oc, od⟩ := ho
    have hcs : ∀ x, cS x ≤ 1 := fun x => by unfold cS; split <;> omega
    have ca := hcs a
    have cb := hcs b
    have cc := hcs c
    have cd := hcs d
    have e40 : (40 : Int32) = nI 40 := rfl
    have zc : ¬ nI (cS a + cS b + cS c + cS d) = -1 := nI_nem1 (by omega)
    have k1 := count_c1 M oa ob oc od
    by_cases hs : m + (cS a + cS b + cS c + cS d) ≤ 40
    · obtain ⟨M1, a1, a2, a3⟩ := app_c (x := a) ⟨h1, fun j hj => ⟨(h3 j hj).1, (h3 j hj).2.1⟩⟩ oa (by omega)
      obtain ⟨M2, b1, b2, b3⟩ := app_c a2 ob (by omega)
      obtain ⟨M3, c1, c2, c3⟩ := app_c b2 oc (by omega)
      obtain ⟨M4, d1, d2, d3⟩ := app_c c2 od (by omega)
      have K4 := ((a3.tr b3).tr c3).tr d3
      have hP : RPm M4 m pt := ⟨by rw [K4 37 (by decide) 12 (by decide)]; exact h2, fun j hj => ⟨(h3 j hj).1, by rw [K4.cell (k := 47) (by decide) (fun j => by simp)]; exact (h3 j hj).2.2⟩⟩
      obtain ⟨M5, p1, p2, p3⟩ := app_m (x := a) hP oa (by omega)
      obtain ⟨M6, q1, q2, q3⟩ := app_m p2 ob (by omega)
      obtain ⟨M7, r1, r2, r3⟩ := app_m q2 oc (by omega)
      obtain ⟨M8, s1, s2, s3⟩ := app_m r2 od (by omega)
      have K8 := ((p3.tr q3).tr r3).tr s3
      refine ⟨nI (m + cS a + cS b + cS c + cS d), M4, M8, _, _, ?_, ?_, ⟨by omega, ?_, s2.1, fun j hj => ⟨(s2.2 j hj).1, ?_, (s2.2 j hj).2⟩⟩, ?_⟩
      · rw [fX8_pattern_s, k1, Option.bind_some, if_neg zc, h1, nI_plus, e40, if_pos ((nI_le_iff (by omega) (by omega)).mpr hs), a1, Option.bind_some, b1, Option.bind_some, c1, Option.bind_some, d1, Option.bind_some, d2.1]
      · have z1 : ¬ (1 : Int32) = 0 := by decide
        have e4 : ∀ k : Nat, (4 : Int32) = nI 4 := fun _ => rfl
        have w0 : ¬ (4 : Int32) ≤ 0 := by decide
        have w1 : ¬ (4 : Int32) ≤ 1 := by decide
        have w2 : ¬ (4 : Int32) ≤ 2 := by decide
        have w3 : ¬ (4 : Int32) ≤ 3 := by decide
        have w4 : (4 : Int32) ≤ 4 := by decide
        have v0 : (0 : Int32) + 1 = 1 := by decide
        have v1 : (1 : Int32) + 1 = 2 := by decide
        have v2 : (2 : Int32) + 1 = 3 := by decide
        have v3 : (3 : Int32) + 1 = 4 := by decide
        have u1 : ¬ (1 : Int32) = 0 := by decide
        have u2 : ¬ (2 : Int32) = 0 := by decide
        have u3 : ¬ (3 : Int32) = 0 := by decide
        have t2 : ¬ (2 : Int32) = 1 := by decide
        have t3 : ¬ (3 : Int32) = 1 := by decide
        have r3' : ¬ (3 : Int32) = 2 := by decide
        have hstep : fX9_pattern_52 4096 a b c d 0 M4 = some (nI (m + cS a + cS b + cS c + cS d), M8) := by
          rw [show (4096 : Nat) = 4091 + 1 + 1 + 1 + 1 + 1 from rfl]
          rw [fX9_pattern_52_s, if_neg w0, if_pos rfl, p1, v0]
          rw [fX9_pattern_52_s, if_neg w1, if_neg u1, if_pos rfl, q1, v1]
          rw [fX9_pattern_52_s, if_neg w2, if_neg u2, if_neg t2, if_pos rfl, r1, v2]
          rw [fX9_pattern_52_s, if_neg w3, if_neg u3, if_neg t3, if_neg r3', s1, v3]
          rw [fX9_pattern_52_s, if_pos w4, fX9_pattern_123_s, s2.1]
        rw [fX9_pattern_s, sgn_m1 oa, Option.bind_some, if_neg z1, sgn_m1 ob, Option.bind_some, if_neg z1, sgn_m1 oc, Option.bind_some, if_neg z1, sgn_m1 od, Option.bind_some, if_neg z1, given_m M4 oa ob oc od, Option.bind_some, hP.1, nI_plus, e40, if_pos ((nI_le_iff (by omega) (by omega)).mpr hs)]
        exact hstep
      · rw [K8 32 (by decide) 3 (by decide)]; exact d2.1
      · rw [K8.cell (k := 33) (by decide) (fun j => by simp)]; exact (d2.2 j hj).2
      · have g1 := K4.mono (ks2 := [33, 47]) (js2 := [(32, 3), (37, 12)]) (fun k hk => by simp at hk ⊢; omega) (fun q hq => by simp at hq ⊢; exact Or.inl hq)
        have g2 := K8.mono (ks2 := [33, 47]) (js2 := [(32, 3), (37, 12)]) (fun k hk => by simp at hk ⊢; omega) (fun q hq => by simp at hq ⊢; exact Or.inr hq)
        exact g1.tr g2
    · apply no
      · rw [fX8_pattern_s, k1, Option.bind_some, if_neg zc, h1, nI_plus, e40, if_neg (fun g => hs ((nI_le_iff (by omega) (by omega)).mp g))]
      · have z1 : ¬ (1 : Int32) = 0 := by decide
        rw [fX9_pattern_s, sgn_m1 oa, Option.bind_some, if_neg z1, sgn_m1 ob, Option.bind_some, if_neg z1, sgn_m1 oc, Option.bind_some, if_neg z1, sgn_m1 od, Option.bind_some, if_neg z1, given_m M oa ob oc od, Option.bind_some, h2, nI_plus, e40, if_neg (fun g => hs ((nI_le_iff (by omega) (by omega)).mp g))]
  · apply no
    · rw [fX8_pattern_s, count_c0 M ho, Option.bind_some, if_pos rfl]
    · have z1 : ¬ (1 : Int32) = 0 := by decide
      by_cases oa : okS a
      · by_cases ob : okS b
        · by_cases oc : okS c
          · by_cases od : okS d
            · exact absurd ⟨oa, ob, oc, od⟩ ho
            · rw [fX9_pattern_s, sgn_m1 oa, Option.bind_some, if_neg z1, sgn_m1 ob, Option.bind_some, if_neg z1, sgn_m1 oc, Option.bind_some, if_neg z1, sgn_m0 od, Option.bind_some, if_pos rfl]
          · rw [fX9_pattern_s, sgn_m1 oa, Option.bind_some, if_neg z1, sgn_m1 ob, Option.bind_some, if_neg z1, sgn_m0 oc, Option.bind_some, if_pos rfl]
        · rw [fX9_pattern_s, sgn_m1 oa, Option.bind_some, if_neg z1, sgn_m0 ob, Option.bind_some, if_pos rfl]
      · rw [fX9_pattern_s, sgn_m0 oa, Option.bind_some, if_pos rfl]
theorem wipe_ok {M : xM} {m : Nat} {pt : Nat → Nat} (h : RP M m pt) : ∃ (r : Int32) (M1 M2 : xM) (m2 : Nat) (pt2 : Nat → Nat), fX8_wipe M = some (r, M1) ∧ fX9_wipe M1 = some (r, M2) ∧ RP M2 m2 pt2 ∧ Kp [33, 47] [(32, 3), (37, 12)] M M2 := by
  obtain ⟨hm, h1, h2, h3⟩ := h
  obtain ⟨M1, e1⟩ : ∃ M1, M1 = xs1 M 32 3 0 := ⟨_, rfl⟩
  obtain ⟨M2, e2⟩ : ∃ M2, M2 = xs1 M1 37 12 0 := ⟨_, rfl⟩
  have q1 : M1 37 12 = nI m := by rw [e1, xs1_ne (by decide)]; exact h2
  have K1 : Kp [33, 47] [(32, 3), (37, 12)] M M1 := by rw [e1]; exact Kp.s2 (by decide)
  have K2 : Kp [33, 47] [(32, 3), (37, 12)] M1 M2 := by rw [e2]; exact Kp.s2 (by decide)
  refine ⟨nI m, M1, M2, 0, pt, by rw [fX8_wipe_s, xlt_def, ← e1, h1], by rw [fX9_wipe_s, xlt_def, ← e2, q1], ⟨by omega, ?_, ?_, fun j hj => by omega⟩, K1.tr K2⟩
  · rw [e2, xs1_ne (by decide), e1, xs1_self]; rfl
  · rw [e2, xs1_self]; rfl
section DRF
variable {n : Nat} {T tx st en SA rk : Nat → Nat} {cp : Nat → Option Nat} {cl : Nat → Nat} {M : xM}
theorem repl_ok (hn : n ≤ 408) {p : Nat} (hp : p < n) (M : xM) (y : Int32) : fX1_replace (nI p) y M = some (M 36 p, xs1 M 36 p y) := by
  simp (disch := omega) only [fX1_replace_s, xin_nI, nI_clamp, if_pos, xlt_def]
theorem tell_ok (hc : RBc M n T tx st en SA rk cp cl) (hm : RBm M n T tx st SA rk) (hd : RD M n) (x y : Int32) : ∃ (r : Int32) (M1 M2 : xM), fX8_tell x y M = some (r, M1) ∧ fX9_tell x y M1 = some (r, M2) ∧ RD M2 n ∧ Fr [36, 46] M M2 := by
  have hn := hc.1.1
  by_cases h : xin x n
  · obtain ⟨p, hp, rfl⟩ := xin_ex h
    obtain ⟨M1, e1⟩ : ∃ M1, M1 = xs1 M 36 p y := ⟨_, rfl⟩
    obtain ⟨M2, e2⟩ : ∃ M2, M2 = xs1 M1 46 p y := ⟨_, rfl⟩
    have F1 : Fr [36, 46] M M1 := by rw [e1]; exact Fr.s1 (by decide)
    have F2 : Fr [36, 46] M1 M2 := by rw [e2]; exact Fr.s1 (by decide)
    have hm1 : RBm M1 n T tx st SA rk := hm.kp (by rw [F1 37 (by decide)]) (F1 40 (by decide)) (F1 41 (by decide)) (F1 42 (by decide)) (F1 43 (by decide)) (F1 44 (by decide)) (F1 45 (by decide))
    have q1 : M1 46 p = M 46 p := by rw [e1, xs1_ne (by decide)]
    refine ⟨M 36 p, M1, M2, ?_, ?_, fun i hi => ?_, F1.tr F2⟩
    · simp only [fX8_tell_s, hasc1 hc hp, Option.bind_some, z10, if_false, repl_ok hn hp, ← e1]
    · rw [hd p hp]
      simp (disch := omega) only [fX9_tell_s, hasm1 hn hm1 hp, Option.bind_some, z10, if_false, xin_nI, nI_clamp, if_pos, xlt_def, ← e2, q1]
    · have a1 : M2 36 i = if i = p then y else M 36 i := by rw [e2, xs1_ne (by decide), e1, xs1_cell]
      have a2 : M2 46 i = if i = p then y else M 46 i := by rw [e2, xs1_cell, e1, xs1_ne (by decide)]
      rw [a1, a2, hd i hi]
  · exact ⟨-1, M, M, by simp only [fX8_tell_s, hasc0 hc h, Option.bind_some, if_true], by simp only [fX9_tell_s, hasm0 hn hm h, Option.bind_some, if_true], hd, Fr.rf⟩
theorem swap_ok (hc : RBc M n T tx st en SA rk cp cl) (hm : RBm M n T tx st SA rk) (hd : RD M n) (x y : Int32) : ∃ (r : Int32) (M1 M2 : xM), fX8_swap x y M = some (r, M1) ∧ fX9_swap x y M1 = some (r, M2) ∧ RD M2 n ∧ Fr [36, 46] M M2 := by
  have hn := hc.1.1
  by_cases h : xin x n
  · obtain ⟨p, hp, rfl⟩ := xin_ex h
    by_cases h2 : xin y n
    · obtain ⟨q, hq, rfl⟩ := xin_ex h2
      obtain ⟨M1, e1⟩ : ∃ M1, M1 = xs1 M 36 q (M 36 p) := ⟨_, rfl⟩
      obtain ⟨M2, e2⟩ : ∃ M2, M2 = xs1 M1 36 p (M 36 q) := ⟨_, rfl⟩
      have F1 : Fr [36, 46] M M1 := by rw [e1]; exact Fr.s1 (by decide)
      have F2 : Fr [36, 46] M1 M2 := by rw [e2]; exact Fr.s1 (by decide)
      have F := F1.tr F2
      have q1 : ∀ i, M2 46 i = M 46 i := fun i => by rw [e2, xs1_ne (by decide), e1, xs1_ne (by decide)]
      obtain ⟨M3, e3⟩ : ∃ M3, M3 = xs1 M2 46 p (M 46 q) := ⟨_, rfl⟩
      obtain ⟨M4, e4⟩ : ∃ M4, M4 = xs1 M3 46 q (M 46 p) := ⟨_, rfl⟩
      have F3 : Fr [36, 46] M2 M3 := by rw [e3]; exact Fr.s1 (by decide)
      have F4 : Fr [36, 46] M3 M4 := by rw [e4]; exact Fr.s1 (by decide)
      have hm1 : RBm M2 n T tx st SA rk := hm.kp (by rw [F 37 (by decide)]) (F 40 (by decide)) (F 41 (by decide)) (F 42 (by decide)) (F 43 (by decide)) (F 44 (by decide)) (F 45 (by decide))
      refine ⟨1, M2, M4, ?_, ?_, fun i hi => ?_, (F.tr F3).tr F4⟩
      · simp (disch := omega) only [fX8_swap_s, hasc1 hc hp, hasc1 hc hq, Option.bind_some, z10, if_false, xin_nI, nI_clamp, if_pos, repl_ok hn hq, repl_ok hn hp, ← e1, ← e2]
      · simp (disch := omega) only [fX9_swap_s, hasm1 hn hm1 hp, hasm1 hn hm1 hq, Option.bind_some, z10, if_false, xin_nI, nI_clamp, if_pos, xlt_def, q1, ← e3, ← e4]
      · have a1 : M4 36 i = if i = p then M 36 q else if i = q then M 36 p else M 36 i := by rw [e4, xs1_ne (by decide), e3, xs1_ne (by decide), e2, xs1_cell, e1, xs1_cell]
        have a2 : M4 46 i = if i = q then M 46 p else if i = p then M 46 q else M 46 i := by rw [e4, xs1_cell, e3, xs1_cell, q1]
        rw [a1, a2, hd i hi, hd p hp, hd q hq]
        by_cases g1 : i = p
        · by_cases g2 : i = q
          · rw [if_pos g1, if_pos g2, ← g1, ← g2]
          · rw [if_pos g1, if_neg g2, if_pos g1]
        · by_cases g2 : i = q
          · rw [if_neg g1, if_pos g2]
            simp only [g2, if_true]
          · rw [if_neg g1, if_neg g2, if_neg g2, if_neg g1]
    · exact ⟨-1, M, M, by simp only [fX8_swap_s, hasc1 hc hp, hasc0 hc h2, Option.bind_some, z10, if_false, if_true], by simp only [fX9_swap_s, hasm1 hn hm hp, hasm0 hn hm h2, Option.bind_some, z10, if_false, if_true], hd, Fr.rf⟩
  · exact ⟨-1, M, M, by simp only [fX8_swap_s, hasc0 hc h, Option.bind_some, if_true], by simp only [fX9_swap_s, hasm0 hn hm h, Option.bind_some, if_true], hd, Fr.rf⟩
theorem jwipe_loop (hn : n ≤ 408) : ∀ (d i fuel : Nat) (M : xM), i + d = n → d < fuel → M 37 6 = nI n → (∀ j, j < i → M 49 j = 0) → ∃ M2, fX9_judge_2 fuel (nI i) M = fX9_judge_23 M2 ∧ (∀ j, j < n → M2 49 j = 0) ∧ Fr [49] M M2 := by
  intro d
  induction d with
  | zero =>
    intro i fuel M hi hf h37 h0
    obtain ⟨f, rfl⟩ : ∃ f, fuel = f + 1 := ⟨fuel - 1, by omega⟩
    exact ⟨M, by simp (disch := omega) only [fX9_judge_2_s, h37, nI_le_iff, if_pos], fun j hj => h0 j (by omega), Fr.rf⟩
  | succ d ih =>
    intro i fuel M hi hf h37 h0
    obtain ⟨f, rfl⟩ : ∃ f, fuel = f + 1 := ⟨fuel - 1, by omega⟩
    obtain ⟨M1, e1⟩ : ∃ M1, M1 = xs1 M 49 i (vp_nar .boolean 0) := ⟨_, rfl⟩
    have F1 : Fr [49] M M1 := by rw [e1]; exact Fr.s1 (by decide)
    obtain ⟨M2, a1, a2, a3⟩ := ih (i + 1) f M1 (by omega) (by omega) (by rw [F1 37 (by decide)]; exact h37) (fun j hj => by
      rw [e1, xs1_cell]
      by_cases g : j = i
      · rw [if_pos g]; decide
      · rw [if_neg g]; exact h0 j (by omega))
    exact ⟨M2, by simp (disch := omega) only [fX9_judge_2_s, h37, nI_le_iff, if_neg, xin_nI, nI_clamp, if_pos, xlt_def, ← e1, nI_add1, a1], a2, F1.tr a3⟩
theorem judge_loop (hc : RBc M n T tx st en SA rk cp cl) (hm : RBm M n T tx st SA rk) (hd : RD M n) {D : Nat → Nat} (hD : ∀ j, D j = (M 46 j).toNatClampNeg) : ∀ (k i fuel : Nat) (M1 : xM), i + k = n → k < fuel → Fr [49] M M1 → (∀ j, j < i → M 46 j = nI (D j) ∧ D j < n) → (∀ j j', j < j' → j' < i → rk (D j) < rk (D j')) → (∀ p, p < n → (M1 49 p = 0 ∧ ∀ j, j < i → D j ≠ p) ∨ (M1 49 p = 1 ∧ ∃ j, j < i ∧ D j = p)) →
    ∃ r M2, fX1_firstWrong_4 fuel (if i = 0 then -1 else nI (rk (D (i - 1)))) (nI i) M = some r ∧ fX9_judge_25 fuel (nI i) M1 = some (r, M2) ∧ Fr [49] M M2 := by
  have hn := hc.1.1
  have h4 := hc.2.2.1.1.1
  have h37 := hm.1.1
  intro k
  induction k with
  | zero =>
    intro i fuel M1 hi hf hF h1 h2 h3
    obtain ⟨f, rfl⟩ : ∃ f, fuel = f + 1 := ⟨fuel - 1, by omega⟩
    have h37' : M1 37 6 = nI n := by rw [hF 37 (by decide)]; exact h37
    exact ⟨nI n, M1, by simp (disch := omega) only [fX1_firstWrong_4_s, h4, nI_le_iff, ifp, fX1_firstWrong_64_s], by simp (disch := omega) only [fX9_judge_25_s, h37', nI_le_iff, if_pos, fX9_judge_98_s], hF⟩
  | succ k ih =>
    intro i fuel M1 hi hf hF h1 h2 h3
    obtain ⟨f, rfl⟩ : ∃ f, fuel = f + 1 := ⟨fuel - 1, by omega⟩
    have hin : i < n := by omega
    have h37' : M1 37 6 = nI n := by rw [hF 37 (by decide)]; exact h37
    have hm1 : RBm M1 n T tx st SA rk := hm.kp (by rw [hF 37 (by decide)]) (hF 40 (by decide)) (hF 41 (by decide)) (hF 42 (by decide)) (hF 43 (by decide)) (hF 44 (by decide)) (hF 45 (by decide))
    have c46 := hF 46 (by decide)
    have c45 := hF 45 (by decide)
    have hdi := hd i hin
    generalize hl : (if i = 0 then (-1 : Int32) else nI (rk (D (i - 1)))) = last
    by_cases hx : xin (M 46 i) n
    · obtain ⟨p, hp, hpe⟩ := xin_ex hx
      have hDi : D i = p := by rw [hD, hpe, nI_clamp (by omega)]
      have h36 : M 36 i = nI p := by rw [hdi, hpe]
      have h46 : M1 46 i = nI p := by rw [c46, hpe]
      have r11 := hc.2.2.1.2.2.1 p hp
      have r45 := hm1.2.2.2 p hp
      have brk := (hc.2.1.2.1 p hp).1
      have hlast : last < nI (rk p) ↔ (i = 0 ∨ rk (D (i - 1)) < rk p) := by
        rw [← hl]
        by_cases g : i = 0
        · rw [if_pos g]
          refine ⟨fun _ => Or.inl g, fun _ => ?_⟩
          rw [Int32.lt_iff_toInt_lt, nI_toInt (by omega)]
          have : (-1 : Int32).toInt = -1 := rfl
          omega
        · rw [if_neg g]
          have := (hc.2.1.2.1 _ (h1 (i - 1) (by omega)).2).1
          rw [nI_lt_iff (by omega) (by omega)]
          exact ⟨fun h => Or.inr h, fun h => by rcases h with h | h; exact absurd h g; exact h⟩
      have goes : (i = 0 ∨ rk (D (i - 1)) < rk p) → ∃ r M2, fX1_firstWrong_4 (f + 1) last (nI i) M = some r ∧ fX9_judge_25 (f + 1) (nI i) M1 = some (r, M2) ∧ Fr [49] M M2 := by
        intro hg
        have hnew : ∀ j, j < i → rk (D j) < rk p := by
          intro j hj
          rcases hg with g | g
          · omega
          · rcases Nat.lt_or_ge j (i - 1) with g2 | g2
            · exact Nat.lt_trans (h2 j (i - 1) g2 (by omega)) g
            · rw [show j = i - 1 by omega]; exact g
        have h49 : M1 49 p = 0 := by
          rcases h3 p hp with g | ⟨-, j, hj, g⟩
          · exact g.1
          · have := hnew j hj
            rw [g] at this
            omega
        obtain ⟨M2, e2⟩ : ∃ M2, M2 = xs1 M1 49 p (vp_nar .boolean 1) := ⟨_, rfl⟩
        have F2 : Fr [49] M1 M2 := by rw [e2]; exact Fr.s1 (by decide)
        obtain ⟨r, M3, a1, a2, a3⟩ := ih (i + 1) f M2 (by omega) (by omega) (hF.tr F2) (fun j hj => by
          rcases Nat.lt_or_ge j i with g | g
          · exact h1 j g
          · rw [show j = i by omega, hDi]; exact ⟨hpe, hp⟩) (fun j j' hjj hj => by
          rcases Nat.lt_or_ge j' i with g | g
          · exact h2 j j' hjj g
          · rw [show j' = i by omega, hDi]; exact hnew j (by omega)) (fun q hq => by
          have a : M2 49 q = if q = p then 1 else M1 49 q := by rw [e2, xs1_cell]; rfl
          rw [a]
          by_cases g : q = p
          · rw [if_pos g]
            exact Or.inr ⟨rfl, i, by omega, by rw [hDi, g]⟩
          · rw [if_neg g]
            rcases h3 q hq with ⟨b1, b2⟩ | ⟨b1, j, b2, b3⟩
            · refine Or.inl ⟨b1, fun j hj => ?_⟩
              rcases Nat.lt_or_ge j i with g2 | g2
              · exact b2 j g2
              · rw [show j = i by omega, hDi]; exact fun h => g h.symm
            · exact Or.inr ⟨b1, j, by omega, b3⟩)
        have a1' : fX1_firstWrong_4 f (nI (rk p)) (nI (i + 1)) M = some r := by
          rw [if_neg (by omega), Nat.add_sub_cancel, hDi] at a1
          exact a1
        refine ⟨r, M3, ?_, ?_, a3⟩
        · have hl2 := hlast.mpr hg
          simp (disch := omega) only [fX1_firstWrong_4_s, h4, nI_le_iff, ifm, xin_nI, nI_clamp, ifp, h36, hasc1 hc hp, Option.bind_some, z10, r11, hl2, xlt_def, nI_add1, a1', not_false_eq_true, if_true, if_false]
        · have h85 : fX9_judge_85 (fX9_judge_25 f) (nI i) (nI p) M1 = some (r, M3) := by
            simp (disch := omega) only [fX9_judge_85_s, xin_nI, nI_clamp, if_pos, xlt_def, ← e2, nI_add1, a2]
          by_cases g : i = 0
          · have zi : nI i ≤ 0 := (nI_le0 (by omega)).mpr g
            simp (disch := omega) only [fX9_judge_25_s, h37', nI_le_iff, if_neg, xin_nI, nI_clamp, if_pos, h46, hasm1 hn hm1 hp, Option.bind_some, z10, if_false, h49, if_true, zi, h85]
          · have hpr := h1 (i - 1) (by omega)
            have h46' : M1 46 (i - 1) = nI (D (i - 1)) := by rw [c46]; exact hpr.1
            have r45' := hm1.2.2.2 _ hpr.2
            have hle : rk (D (i - 1)) ≤ rk p := by rcases hg with h | h; exact absurd h g; omega
            have hbd := hpr.2
            simp (disch := omega) only [fX9_judge_25_s, h37', nI_le_iff, if_neg, xin_nI, nI_clamp, if_pos, h46, hasm1 hn hm1 hp, Option.bind_some, z10, if_false, h49, if_true, nI_le0, nI_m1, h46', r45', r45, h85]
      by_cases hg : i = 0 ∨ rk (D (i - 1)) < rk p
      · exact goes hg
      · have hl2 : ¬ last < nI (rk p) := fun g => hg (hlast.mp g)
        have hi0 : i ≠ 0 := fun g => hg (Or.inl g)
        refine ⟨nI i, M1, ?_, ?_, hF⟩
        · simp (disch := omega) only [fX1_firstWrong_4_s, h4, nI_le_iff, ifm, xin_nI, nI_clamp, ifp, h36, hasc1 hc hp, Option.bind_some, z10, r11, hl2, not_false_eq_true, if_true, if_false]
        · rcases h3 p hp with ⟨b1, b2⟩ | ⟨b1, -⟩
          · have hpr := h1 (i - 1) (by omega)
            have h46' : M1 46 (i - 1) = nI (D (i - 1)) := by rw [c46]; exact hpr.1
            have r45' := hm1.2.2.2 _ hpr.2
            have hbd := hpr.2
            have hne := b2 (i - 1) (by omega)
            have brk' := (hc.2.1.2.1 _ hbd).1
            have hlt : ¬ rk (D (i - 1)) ≤ rk p := by
              intro g
              have ge : rk (D (i - 1)) = rk p := by omega
              have e1 := (hc.2.1.2.1 _ hbd).2
              have e2 := (hc.2.1.2.1 p hp).2
              rw [ge, e2] at e1
              exact hne e1.symm
            simp (disch := omega) only [fX9_judge_25_s, h37', nI_le_iff, if_neg, xin_nI, nI_clamp, if_pos, h46, hasm1 hn hm1 hp, Option.bind_some, z10, if_false, b1, if_true, nI_le0, nI_m1, h46', r45', r45]
          · have z : ¬ (1 : Int32) = 0 := by decide
            simp (disch := omega) only [fX9_judge_25_s, h37', nI_le_iff, if_neg, xin_nI, nI_clamp, if_pos, h46, hasm1 hn hm1 hp, Option.bind_some, z10, if_false, b1, z]
    · have hx2 : ¬ xin (M 36 i) n := by rw [hdi]; exact hx
      have hx3 : ¬ xin (M1 46 i) n := by rw [c46]; exact hx
      refine ⟨nI i, M1, ?_, ?_, hF⟩
      · simp (disch := omega) only [fX1_firstWrong_4_s, h4, nI_le_iff, ifm, xin_nI, nI_clamp, ifp, hasc0 hc hx2, Option.bind_some, if_true]
      · simp (disch := omega) only [fX9_judge_25_s, h37', nI_le_iff, if_neg, xin_nI, nI_clamp, if_pos, hasm0 hn hm1 hx3, Option.bind_some, if_true]
theorem judge_ok (hc : RBc M n T tx st en SA rk cp cl) (hm : RBm M n T tx st SA rk) (hd : RD M n) : ∃ (r : Int32) (M2 : xM), fX8_judge M = some r ∧ fX9_judge M = some (r, M2) ∧ Fr [49] M M2 := by
  have hn := hc.1.1
  obtain ⟨M1, a1, a2, a3⟩ := jwipe_loop hn n 0 4096 M (by omega) (by omega) hm.1.1 (fun j hj => by omega)
  obtain ⟨r, M2, b1, b2, b3⟩ := judge_loop hc hm hd (D := fun j => (M 46 j).toNatClampNeg) (fun _ => rfl) n 0 4096 M1 (by omega) (by omega) a3 (fun j hj => by omega) (fun j j' _ hj => by omega) (fun p hp => Or.inl ⟨a2 p hp, fun j hj => by omega⟩)
  refine ⟨r, M2, ?_, ?_, b3⟩
  · rw [fX8_judge_s, fX1_firstWrong_s]
    have b1' : fX1_firstWrong_4 4096 (-1) 0 M = some r := b1
    rw [b1']
    rfl
  · rw [fX9_judge_s]
    have a1' : fX9_judge_2 4096 0 M = fX9_judge_23 M1 := a1
    rw [a1', fX9_judge_23_s]
    exact b2
end DRF
