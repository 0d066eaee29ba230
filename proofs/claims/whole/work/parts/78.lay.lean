/-! THE WHOLE is laid: class and reference -/
def LSc (M : xM) (ct : Nat → Nat) (sg : Nat → Nat → Nat) (t k : Nat) : Prop := M 4 4 = nI (posx ct t + k) ∧ Laid (M 5) (M 6) ct sg nI (fun c => nI (c + 8)) t k ∧ ∀ u, u < t → M 7 u = nI (posx ct u) ∧ M 8 u = nI (posx ct u + ct u)
theorem RTc.kp {M M2 : xM} {ct : Nat → Nat} {sg : Nat → Nat → Nat} (h : RTc M ct sg) (h1 : M2 1 = M 1) (h2 : M2 2 = M 2) (h3 : M2 3 = M 3) : RTc M2 ct sg := by
  unfold RTc
  rw [h1, h2, h3]
  exact h
theorem RTm.kp {M M2 : xM} {ct : Nat → Nat} {sg : Nat → Nat → Nat} (h : RTm M ct sg) (h1 : M2 37 2 = M 37 2) (h2 : M2 38 = M 38) (h3 : M2 39 = M 39) : RTm M2 ct sg := by
  unfold RTm
  rw [h1, h2, h3]
  exact h
/-- a letter is laid -/
def lw (M : xM) (p : Nat) (a b : Int32) : xM := xs1 (xs1 (xs1 M 5 p a) 6 p b) 4 4 (nI (p + 1))
theorem lw_ne {M : xM} {p k : Nat} {a b : Int32} (h1 : k ≠ 5) (h2 : k ≠ 6) (h3 : k ≠ 4) : lw M p a b k = M k := by unfold lw; rw [xs1_ne h3, xs1_ne h2, xs1_ne h1]
theorem lw_5 (M : xM) (p : Nat) (a b : Int32) (j : Nat) : lw M p a b 5 j = if j = p then a else M 5 j := by unfold lw; rw [xs1_ne (by decide), xs1_ne (by decide), xs1_cell]
theorem lw_6 (M : xM) (p : Nat) (a b : Int32) (j : Nat) : lw M p a b 6 j = if j = p then b else M 6 j := by unfold lw; rw [xs1_ne (by decide), xs1_cell, xs1_ne (by decide)]
theorem lw_4 (M : xM) (p : Nat) (a b : Int32) : lw M p a b 4 4 = nI (p + 1) := by unfold lw; rw [xs1_self]
theorem lw_kp (M : xM) (p : Nat) (a b : Int32) : Kp [5, 6, 7, 8] [(4, 4)] M (lw M p a b) := by
  unfold lw
  exact ((Kp.s1 (by decide)).tr (Kp.s1 (by decide))).tr (Kp.s2 (by decide))
theorem letter_ok {M : xM} {p : Nat} (h : M 4 4 = nI p) (hp : p < 408) (a b : Int32) : fX7_layLetter b a M = some (lw M p a b) := by
  have e1 : xs1 M 5 p a 4 4 = nI p := by rw [xs1_ne (by decide)]; exact h
  have e2 : xs1 (xs1 M 5 p a) 6 p b 4 4 = nI p := by rw [xs1_ne (by decide)]; exact e1
  unfold lw
  simp (disch := omega) only [fX7_layLetter_s, h, xin_nI, nI_clamp, if_pos, if_true, xlt_def, e1, e2, nI_add1]
theorem lay_in {ct : Nat → Nat} {sg : Nat → Nat → Nat} {t : Nat} (ht : t < 8) (k9 : Int32 → Int32 → xM → Option xM) : ∀ (d k fuel : Nat) (M : xM), k + d = ct t → d < fuel → RTc M ct sg → LSc M ct sg t k → M 7 t = nI (posx ct t) →
    ∃ M2, fX7_lay_28 k9 fuel (nI (offx ct t + k)) (nI t) (nI k) M = k9 (nI (offx ct (t + 1))) (nI (t + 1)) M2 ∧ RTc M2 ct sg ∧ LSc M2 ct sg (t + 1) 0 ∧ Kp [5, 6, 7, 8] [(4, 4)] M M2 := by
  intro d
  induction d with
  | zero =>
    intro k fuel M hk hf hR hS h7
    obtain ⟨f, rfl⟩ : ∃ f, fuel = f + 1 := ⟨fuel - 1, by omega⟩
    have hkc : k = ct t := by omega
    subst hkc
    have h3 := hR.2.1 t ht
    have hb := posx_bnd hR.1 (show t + 1 ≤ 8 by omega)
    have hsum := hR.1
    have hmo := offx_mono ct (show t + 1 ≤ 8 by omega)
    have h9 : offx ct (t + 1) = offx ct t + ct t := rfl
    obtain ⟨s1, s2, s3⟩ := hS
    obtain ⟨M1, e1⟩ : ∃ M1, M1 = xs1 M 8 t (nI (posx ct t + ct t)) := ⟨_, rfl⟩
    have q3 : M1 3 t = nI (ct t) := by rw [e1, xs1_ne (by decide)]; exact h3
    have q4 : M1 4 4 = nI (posx ct t + ct t) := by rw [e1, xs1_ne (by decide)]; exact s1
    have K1 : Kp [5, 6, 7, 8] [(4, 4)] M M1 := by rw [e1]; exact Kp.s1 (by decide)
    have start : fX7_lay_28 k9 (f + 1) (nI (offx ct t + ct t)) (nI t) (nI (ct t)) M = (if (M1 3 t) ≤ 0 then (fX7_lay_87 k9 (nI (offx ct (t + 1))) (nI t) M1) else ((fX7_layLetter (nI t) (nI t) M1).bind fun v5 => fX7_lay_87 k9 (nI (offx ct (t + 1))) (nI t) v5)) := by
      simp (disch := omega) only [fX7_lay_28_s, xin_nI, nI_clamp, h3, nI_le_iff, if_pos, if_true, fX7_lay_62_s, s1, xlt_def, ← e1, h9]
    have h78 : ∀ (N : xM), N 7 = M1 7 → N 8 = M1 8 → ∀ u, u < t + 1 → N 7 u = nI (posx ct u) ∧ N 8 u = nI (posx ct u + ct u) := by
      intro N n7 n8 u hu
      rw [n7, n8, e1, xs1_ne (by decide), xs1_cell]
      by_cases e : u = t
      · subst e; rw [if_pos rfl]; exact ⟨h7, rfl⟩
      · rw [if_neg e]; exact s3 u (by omega)
    have hL1 : Laid (M1 5) (M1 6) ct sg nI (fun c => nI (c + 8)) t (ct t) := by
      have f5 : M1 5 = M 5 := by rw [e1, xs1_ne (by decide)]
      have f6 : M1 6 = M 6 := by rw [e1, xs1_ne (by decide)]
      rw [f5, f6]; exact s2
    have hR1 : RTc M1 ct sg := hR.kp (by rw [e1, xs1_ne (by decide)]) (by rw [e1, xs1_ne (by decide)]) (by rw [e1, xs1_ne (by decide)])
    by_cases h0 : ct t = 0
    · refine ⟨M1, ?_, hR1, ⟨?_, hL1.next h0, h78 M1 rfl rfl⟩, K1⟩
      · rw [start, q3, if_pos ((nI_le0 (by omega)).mpr h0), fX7_lay_87_s, nI_add1]
      · rw [q4]; simp only [posx]; rw [if_pos h0]; rfl
    · have hp : posx ct t + ct t < 408 := by
        simp only [posx] at hb
        rw [if_neg h0] at hb
        omega
      have hl := letter_ok q4 hp (nI t) (nI t)
      refine ⟨lw M1 (posx ct t + ct t) (nI t) (nI t), ?_, hR1.kp (lw_ne (by decide) (by decide) (by decide)) (lw_ne (by decide) (by decide) (by decide)) (lw_ne (by decide) (by decide) (by decide)), ⟨?_, hL1.end (by omega) (lw_5 _ _ _ _) (lw_6 _ _ _ _), h78 _ (lw_ne (by decide) (by decide) (by decide)) (lw_ne (by decide) (by decide) (by decide))⟩, K1.tr (lw_kp _ _ _ _)⟩
      · rw [start, q3, if_neg (fun g => h0 ((nI_le0 (by omega)).mp g)), hl, Option.bind_some, fX7_lay_87_s, nI_add1]
      · rw [lw_4]; simp only [posx]; rw [if_neg h0]
  | succ d ih =>
    intro k fuel M hk hf hR hS h7
    obtain ⟨f, rfl⟩ : ∃ f, fuel = f + 1 := ⟨fuel - 1, by omega⟩
    have h3 := hR.2.1 t ht
    have hb := posx_bnd hR.1 (show t + 1 ≤ 8 by omega)
    have hsum := hR.1
    have hmo := offx_mono ct (show t + 1 ≤ 8 by omega)
    have h9 : offx ct (t + 1) = offx ct t + ct t := rfl
    obtain ⟨hs1, hs2⟩ := hR.2.2.2 t k ht (by omega)
    obtain ⟨s1, s2, s3⟩ := hS
    have hp : posx ct t + k < 408 := by
      simp only [posx] at hb
      omega
    have hl := letter_ok s1 hp (nI (sg t k + 8)) (nI t)
    obtain ⟨M2, a1, a2, a3, a4⟩ := ih (k + 1) f (lw M (posx ct t + k) (nI (sg t k + 8)) (nI t)) (by omega) (by omega) (hR.kp (lw_ne (by decide) (by decide) (by decide)) (lw_ne (by decide) (by decide) (by decide)) (lw_ne (by decide) (by decide) (by decide))) ⟨lw_4 _ _ _ _, s2.sign ht (by omega) (lw_5 _ _ _ _) (lw_6 _ _ _ _), fun u hu => by rw [lw_ne (by decide) (by decide) (by decide), lw_ne (by decide) (by decide) (by decide)]; exact s3 u hu⟩ (by rw [lw_ne (by decide) (by decide) (by decide)]; exact h7)
    refine ⟨M2, ?_, a2, a3, (lw_kp _ _ _ _).tr a4⟩
    have e8 : (8 : Int32) = nI 8 := rfl
    have a1' : fX7_lay_28 k9 f (nI (offx ct t + k + 1)) (nI t) (nI (k + 1)) (lw M (posx ct t + k) (nI (sg t k + 8)) (nI t)) = _ := a1
    simp (disch := omega) only [fX7_lay_28_s, xin_nI, nI_clamp, h3, nI_le_iff, if_pos, if_neg, if_true, if_false, hs2, e8, nI_plus, hl, Option.bind_some, nI_add1, a1']
theorem lay_out {ct : Nat → Nat} {sg : Nat → Nat → Nat} : ∀ (d t fuel : Nat) (M : xM), t + d = 8 → d < fuel → RTc M ct sg → LSc M ct sg t 0 → ∃ M2, fX7_lay_9 fuel (nI (offx ct t)) (nI t) M = some M2 ∧ RTc M2 ct sg ∧ LSc M2 ct sg 8 0 ∧ Kp [5, 6, 7, 8] [(4, 4)] M M2 := by
  intro d
  induction d with
  | zero =>
    intro t fuel M ht hf hR hS
    obtain ⟨f, rfl⟩ : ∃ f, fuel = f + 1 := ⟨fuel - 1, by omega⟩
    have : t = 8 := by omega
    subst this
    have e8 : (8 : Int32) = nI 8 := rfl
    exact ⟨M, by simp (disch := omega) only [fX7_lay_9_s, e8, nI_le_iff, if_pos, if_true], hR, hS, Kp.rf⟩
  | succ d ih =>
    intro t fuel M ht hf hR hS
    obtain ⟨f, rfl⟩ : ∃ f, fuel = f + 1 := ⟨fuel - 1, by omega⟩
    have e8 : (8 : Int32) = nI 8 := rfl
    obtain ⟨s1, s2, s3⟩ := hS
    rw [Nat.add_zero] at s1
    obtain ⟨M1, e1⟩ : ∃ M1, M1 = xs1 M 7 t (nI (posx ct t)) := ⟨_, rfl⟩
    have K1 : Kp [5, 6, 7, 8] [(4, 4)] M M1 := by rw [e1]; exact Kp.s1 (by decide)
    have hR1 : RTc M1 ct sg := hR.kp (by rw [e1, xs1_ne (by decide)]) (by rw [e1, xs1_ne (by decide)]) (by rw [e1, xs1_ne (by decide)])
    have hS1 : LSc M1 ct sg t 0 := by
      refine ⟨by rw [e1, xs1_ne (by decide)]; exact s1, ?_, fun u hu => ?_⟩
      · have f5 : M1 5 = M 5 := by rw [e1, xs1_ne (by decide)]
        have f6 : M1 6 = M 6 := by rw [e1, xs1_ne (by decide)]
        rw [f5, f6]; exact s2
      · rw [e1, xs1_cell, if_neg (by omega), xs1_ne (by decide)]; exact s3 u hu
    have hct : ct t ≤ 400 := by
      have := offx_mono ct (show t + 1 ≤ 8 by omega)
      have := hR.1
      have h9 : offx ct (t + 1) = offx ct t + ct t := rfl
      omega
    obtain ⟨M2, a1, a2, a3, a4⟩ := lay_in (by omega) (fX7_lay_9 f) (ct t) 0 4096 M1 (by omega) (by omega) hR1 hS1 (by rw [e1, xs1_self])
    obtain ⟨M3, b1, b2, b3, b4⟩ := ih (t + 1) f M2 (by omega) (by omega) a2 a3
    refine ⟨M3, ?_, b2, b3, (K1.tr a4).tr b4⟩
    have a1' : fX7_lay_28 (fX7_lay_9 f) 4096 (nI (offx ct t)) (nI t) 0 M1 = _ := a1
    simp (disch := omega) only [fX7_lay_9_s, e8, nI_le_iff, if_neg, if_pos, if_true, if_false, xin_nI, nI_clamp, s1, xlt_def, ← e1, a1', b1]
theorem lay_ok {M : xM} {ct : Nat → Nat} {sg : Nat → Nat → Nat} (hR : RTc M ct sg) : ∃ M2, fX7_lay M = some M2 ∧ RTc M2 ct sg ∧ LSc M2 ct sg 8 0 ∧ Kp [5, 6, 7, 8] [(4, 4)] M M2 := by
  obtain ⟨M1, e1⟩ : ∃ M1, M1 = xs1 M 4 4 0 := ⟨_, rfl⟩
  have hR1 : RTc M1 ct sg := hR.kp (by rw [e1, xs1_ne (by decide)]) (by rw [e1, xs1_ne (by decide)]) (by rw [e1, xs1_ne (by decide)])
  obtain ⟨M2, a1, a2, a3, a4⟩ := lay_out 8 0 4096 M1 (by omega) (by omega) hR1 ⟨by rw [e1, xs1_self]; rfl, ⟨fun u i _ _ h => by omega, fun u h => by omega⟩, fun u h => by omega⟩
  refine ⟨M2, ?_, a2, a3, ?_⟩
  · rw [fX7_lay_s, xlt_def, ← e1]; exact a1
  · have K1 : Kp [5, 6, 7, 8] [(4, 4)] M M1 := by rw [e1]; exact Kp.s2 (by decide)
    exact K1.tr a4
/-! the reference lays likewise -/
def eM (u : Nat) : Int32 := (-2) - nI u
def LSm (M : xM) (ct : Nat → Nat) (sg : Nat → Nat → Nat) (t k : Nat) : Prop := M 37 6 = nI (posx ct t + k) ∧ Laid (M 40) (M 41) ct sg eM nI t k ∧ ∀ u, u < t → M 42 u = nI (posx ct u)
def mw (M : xM) (p : Nat) (a b : Int32) : xM := xs1 (xs1 (xs1 M 40 p a) 41 p b) 37 6 (nI (p + 1))
theorem mw_ne {M : xM} {p k : Nat} {a b : Int32} (h1 : k ≠ 40) (h2 : k ≠ 41) (h3 : k ≠ 37) : mw M p a b k = M k := by unfold mw; rw [xs1_ne h3, xs1_ne h2, xs1_ne h1]
theorem mw_40 (M : xM) (p : Nat) (a b : Int32) (j : Nat) : mw M p a b 40 j = if j = p then a else M 40 j := by unfold mw; rw [xs1_ne (by decide), xs1_ne (by decide), xs1_cell]
theorem mw_41 (M : xM) (p : Nat) (a b : Int32) (j : Nat) : mw M p a b 41 j = if j = p then b else M 41 j := by unfold mw; rw [xs1_ne (by decide), xs1_cell, xs1_ne (by decide)]
theorem mw_37 (M : xM) (p : Nat) (a b : Int32) : mw M p a b 37 6 = nI (p + 1) := by unfold mw; rw [xs1_self]
theorem mw_372 (M : xM) (p : Nat) (a b : Int32) : mw M p a b 37 2 = M 37 2 := by unfold mw; rw [xs1_cell, if_neg (by decide), xs1_ne (by decide), xs1_ne (by decide)]
theorem mw_kp (M : xM) (p : Nat) (a b : Int32) : Kp [40, 41, 42] [(37, 6)] M (mw M p a b) := by
  unfold mw
  exact ((Kp.s1 (by decide)).tr (Kp.s1 (by decide))).tr (Kp.s2 (by decide))
theorem mlay_in {ct : Nat → Nat} {sg : Nat → Nat → Nat} {t : Nat} (ht : t < 8) (k7 : Int32 → xM → Option (Int32 × xM)) : ∀ (d k fuel : Nat) (M : xM), k + d = ct t → d < fuel → RTm M ct sg → LSm M ct sg t k → M 42 t = nI (posx ct t) →
    ∃ M2, fX9_build_25 k7 fuel (nI t) (nI k) M = k7 (nI (t + 1)) M2 ∧ RTm M2 ct sg ∧ LSm M2 ct sg (t + 1) 0 ∧ Kp [40, 41, 42] [(37, 6)] M M2 := by
  intro d
  induction d with
  | zero =>
    intro k fuel M hk hf hR hS h7
    obtain ⟨f, rfl⟩ : ∃ f, fuel = f + 1 := ⟨fuel - 1, by omega⟩
    have hkc : k = ct t := by omega
    subst hkc
    have h3 := hR.2.1 t ht
    have hb := posx_bnd hR.1 (show t + 1 ≤ 8 by omega)
    have hsum := hR.1
    have hmo := offx_mono ct (show t + 1 ≤ 8 by omega)
    have h9 : offx ct (t + 1) = offx ct t + ct t := rfl
    obtain ⟨s1, s2, s3⟩ := hS
    have h42 : ∀ (N : xM), N 42 = M 42 → ∀ u, u < t + 1 → N 42 u = nI (posx ct u) := by
      intro N n7 u hu
      rw [n7]
      by_cases e : u = t
      · subst e; exact h7
      · exact s3 u (by omega)
    by_cases h0 : ct t = 0
    · refine ⟨M, ?_, hR, ⟨?_, s2.next h0, h42 M rfl⟩, Kp.rf⟩
      · have z : nI (ct t) ≤ 0 := (nI_le0 (by omega)).mpr h0
        simp (disch := omega) only [fX9_build_25_s, xin_nI, nI_clamp, h3, nI_le_iff, if_pos, if_true, fX9_build_82_s, z, fX9_build_124_s, nI_add1]
      · rw [s1]; simp only [posx]; rw [if_pos h0]; rfl
    · have hp : posx ct t + ct t < 408 := by
        simp only [posx] at hb
        rw [if_neg h0] at hb
        omega
      have z : ¬ nI (ct t) ≤ 0 := fun g => h0 ((nI_le0 (by omega)).mp g)
      have e1 : xs1 M 40 (posx ct t + ct t) (eM t) 37 6 = nI (posx ct t + ct t) := by rw [xs1_ne (by decide)]; exact s1
      have e2 : xs1 (xs1 M 40 (posx ct t + ct t) (eM t)) 41 (posx ct t + ct t) (nI t) 37 6 = nI (posx ct t + ct t) := by rw [xs1_ne (by decide)]; exact e1
      have e3 : (-2) - nI t = eM t := rfl
      refine ⟨mw M (posx ct t + ct t) (eM t) (nI t), ?_, hR.kp (mw_372 _ _ _ _) (mw_ne (by decide) (by decide) (by decide)) (mw_ne (by decide) (by decide) (by decide)), ⟨?_, s2.end (by omega) (mw_40 _ _ _ _) (mw_41 _ _ _ _), h42 _ (mw_ne (by decide) (by decide) (by decide))⟩, mw_kp _ _ _ _⟩
      · unfold mw
        simp (disch := omega) only [fX9_build_25_s, xin_nI, nI_clamp, h3, nI_le_iff, if_pos, if_true, if_false, fX9_build_82_s, z, s1, e3, xlt_def, e1, e2, nI_add1, fX9_build_124_s]
      · rw [mw_37]; simp only [posx]; rw [if_neg h0]
  | succ d ih =>
    intro k fuel M hk hf hR hS h7
    obtain ⟨f, rfl⟩ : ∃ f, fuel = f + 1 := ⟨fuel - 1, by omega⟩
    have h3 := hR.2.1 t ht
    have hb := posx_bnd hR.1 (show t + 1 ≤ 8 by omega)
    have hsum := hR.1
    have hmo := offx_mono ct (show t + 1 ≤ 8 by omega)
    have h9 : offx ct (t + 1) = offx ct t + ct t := rfl
    obtain ⟨hs1, hs2⟩ := hR.2.2.2 t k ht (by omega)
    obtain ⟨s1, s2, s3⟩ := hS
    have hp : posx ct t + k < 408 := by
      simp only [posx] at hb
      omega
    have e1 : xs1 M 40 (posx ct t + k) (nI (sg t k)) 37 6 = nI (posx ct t + k) := by rw [xs1_ne (by decide)]; exact s1
    have e2 : xs1 (xs1 M 40 (posx ct t + k) (nI (sg t k))) 41 (posx ct t + k) (nI t) 37 6 = nI (posx ct t + k) := by rw [xs1_ne (by decide)]; exact e1
    obtain ⟨M2, a1, a2, a3, a4⟩ := ih (k + 1) f (mw M (posx ct t + k) (nI (sg t k)) (nI t)) (by omega) (by omega) (hR.kp (mw_372 _ _ _ _) (mw_ne (by decide) (by decide) (by decide)) (mw_ne (by decide) (by decide) (by decide))) ⟨mw_37 _ _ _ _, s2.sign ht (by omega) (mw_40 _ _ _ _) (mw_41 _ _ _ _), fun u hu => by rw [mw_ne (by decide) (by decide) (by decide)]; exact s3 u hu⟩ (by rw [mw_ne (by decide) (by decide) (by decide)]; exact h7)
    refine ⟨M2, ?_, a2, a3, (mw_kp _ _ _ _).tr a4⟩
    have e400 : (400 : Int32) = nI 400 := rfl
    unfold mw at a1
    simp (disch := omega) only [fX9_build_25_s, xin_nI, nI_clamp, h3, nI_le_iff, if_pos, if_neg, if_true, if_false, e400, nI_mul, nI_plus, s1, hs2, xlt_def, e1, e2, nI_add1, a1]
theorem mlay_out {ct : Nat → Nat} {sg : Nat → Nat → Nat} : ∀ (d t fuel : Nat) (M : xM), t + d = 8 → d < fuel → RTm M ct sg → LSm M ct sg t 0 → ∃ M2, fX9_build_7 fuel (nI t) M = fX9_build_130 M2 ∧ RTm M2 ct sg ∧ LSm M2 ct sg 8 0 ∧ Kp [40, 41, 42] [(37, 6)] M M2 := by
  intro d
  induction d with
  | zero =>
    intro t fuel M ht hf hR hS
    obtain ⟨f, rfl⟩ : ∃ f, fuel = f + 1 := ⟨fuel - 1, by omega⟩
    have : t = 8 := by omega
    subst this
    have e8 : (8 : Int32) = nI 8 := rfl
    exact ⟨M, by simp (disch := omega) only [fX9_build_7_s, e8, nI_le_iff, if_pos, if_true], hR, hS, Kp.rf⟩
  | succ d ih =>
    intro t fuel M ht hf hR hS
    obtain ⟨f, rfl⟩ : ∃ f, fuel = f + 1 := ⟨fuel - 1, by omega⟩
    have e8 : (8 : Int32) = nI 8 := rfl
    obtain ⟨s1, s2, s3⟩ := hS
    rw [Nat.add_zero] at s1
    obtain ⟨M1, e1⟩ : ∃ M1, M1 = xs1 M 42 t (nI (posx ct t)) := ⟨_, rfl⟩
    have K1 : Kp [40, 41, 42] [(37, 6)] M M1 := by rw [e1]; exact Kp.s1 (by decide)
    have hR1 : RTm M1 ct sg := hR.kp (by rw [e1, xs1_ne (by decide)]) (by rw [e1, xs1_ne (by decide)]) (by rw [e1, xs1_ne (by decide)])
    have hS1 : LSm M1 ct sg t 0 := by
      refine ⟨by rw [e1, xs1_ne (by decide)]; exact s1, ?_, fun u hu => ?_⟩
      · have f5 : M1 40 = M 40 := by rw [e1, xs1_ne (by decide)]
        have f6 : M1 41 = M 41 := by rw [e1, xs1_ne (by decide)]
        rw [f5, f6]; exact s2
      · rw [e1, xs1_cell, if_neg (by omega)]; exact s3 u hu
    have hct : ct t ≤ 400 := by
      have := offx_mono ct (show t + 1 ≤ 8 by omega)
      have := hR.1
      have h9 : offx ct (t + 1) = offx ct t + ct t := rfl
      omega
    obtain ⟨M2, a1, a2, a3, a4⟩ := mlay_in (by omega) (fX9_build_7 f) (ct t) 0 4096 M1 (by omega) (by omega) hR1 hS1 (by rw [e1, xs1_self])
    obtain ⟨M3, b1, b2, b3, b4⟩ := ih (t + 1) f M2 (by omega) (by omega) a2 a3
    refine ⟨M3, ?_, b2, b3, (K1.tr a4).tr b4⟩
    have a1' : fX9_build_25 (fX9_build_7 f) 4096 (nI t) 0 M1 = _ := a1
    simp (disch := omega) only [fX9_build_7_s, e8, nI_le_iff, if_neg, if_pos, if_true, if_false, xin_nI, nI_clamp, s1, xlt_def, ← e1, a1', b1]
theorem mlay_ok {M : xM} {ct : Nat → Nat} {sg : Nat → Nat → Nat} (hR : RTm M ct sg) : ∃ M2, fX9_build M = fX9_build_130 M2 ∧ RTm M2 ct sg ∧ LSm M2 ct sg 8 0 ∧ Kp [40, 41, 42] [(37, 6)] M M2 := by
  obtain ⟨M1, e1⟩ : ∃ M1, M1 = xs1 M 37 6 0 := ⟨_, rfl⟩
  have hR1 : RTm M1 ct sg := hR.kp (by rw [e1, xs1_cell, if_neg (by decide)]) (by rw [e1, xs1_ne (by decide)]) (by rw [e1, xs1_ne (by decide)])
  obtain ⟨M2, a1, a2, a3, a4⟩ := mlay_out 8 0 4096 M1 (by omega) (by omega) hR1 ⟨by rw [e1, xs1_self]; rfl, ⟨fun u i _ _ h => by omega, fun u h => by omega⟩, fun u h => by omega⟩
  refine ⟨M2, ?_, a2, a3, ?_⟩
  · rw [fX9_build_s, xlt_def, ← e1]; exact a1
  · have K1 : Kp [40, 41, 42] [(37, 6)] M M1 := by rw [e1]; exact Kp.s2 (by decide)
    exact K1.tr a4
