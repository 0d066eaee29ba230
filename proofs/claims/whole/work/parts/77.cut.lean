/-! CUT -/
theorem nn_ex {x : Int32} (h : ¬ x < 0) : ∃ c, c < 2147483648 ∧ x = nI c := by
  rw [Int32.lt_iff_toInt_lt] at h
  have e0 : (0 : Int32).toInt = 0 := rfl
  have h5 : x.toInt < 2147483648 := Int32.toInt_lt x
  refine ⟨x.toInt.toNat, by omega, ?_⟩
  apply Int32.toInt_inj.mp
  rw [nI_toInt (by omega)]
  omega
theorem cut_ok {M : xM} {ct : Nat → Nat} {sg : Nat → Nat → Nat} (hc : RTc M ct sg) (hm : RTm M ct sg) (x y : Int32) :
    ∃ (r : Int32) (M1 M2 : xM) (ct2 : Nat → Nat), fX8_cut x y M = some (r, M1) ∧ fX9_cut x y M1 = some (r, M2) ∧ RTc M2 ct2 sg ∧ RTm M2 ct2 sg ∧ Kp [2, 3, 38, 39] [(1, 2), (37, 2)] M M2 := by
  have z1 : ¬ (1 : Int32) = 0 := by decide
  have no : ∀ (h1 : fX8_cut x y M = some (-1, M)) (h2 : fX9_cut x y M = some (-1, M)), ∃ (r : Int32) (M1 M2 : xM) (ct2 : Nat → Nat), fX8_cut x y M = some (r, M1) ∧ fX9_cut x y M1 = some (r, M2) ∧ RTc M2 ct2 sg ∧ RTm M2 ct2 sg ∧ Kp [2, 3, 38, 39] [(1, 2), (37, 2)] M M2 :=
    fun h1 h2 => ⟨-1, M, M, ct, h1, h2, hc, hm, Kp.rf⟩
  by_cases hx : xin x 8
  · obtain ⟨t, ht, rfl⟩ := xin_ex hx
    have t1 := isText_1 ht
    have t2 : ∀ M, fX9_isText (nI t) M = some 1 := t1
    by_cases hy : y < 0
    · refine no ?_ ?_
      · simp only [fX8_cut_s, t1, Option.bind_some, z1, hy, if_true, if_false]
      · simp only [fX9_cut_s, t2, Option.bind_some, z1, hy, if_true, if_false]
    · obtain ⟨n, hn, rfl⟩ := nn_ex hy
      obtain ⟨h1, h2, h3, h4⟩ := id hc
      obtain ⟨g1, g2, g3, g4⟩ := id hm
      have hmo := offx_mono ct (show t + 1 ≤ 8 by omega)
      have h9 : offx ct (t + 1) = offx ct t + ct t := rfl
      have c3 := h2 t ht
      have c39 := g2 t ht
      by_cases hle : n ≤ ct t
      · obtain ⟨M1, e1⟩ : ∃ M1, M1 = xcp M 2 2 (nI (offx ct (t + 1))) (nI (offx ct (t + 1) - n)) (nI (offx ct 8 - offx ct (t + 1))) := ⟨_, rfl⟩
        obtain ⟨M2, e2⟩ : ∃ M2, M2 = xs1 M1 3 t (nI (ct t - n)) := ⟨_, rfl⟩
        obtain ⟨M3, e3⟩ : ∃ M3, M3 = xs1 M2 1 2 (nI (offx ct 8 - n)) := ⟨_, rfl⟩
        obtain ⟨M4, e4⟩ : ∃ M4, M4 = xs1 M3 39 t (nI (ct t - n)) := ⟨_, rfl⟩
        obtain ⟨M5, e5⟩ : ∃ M5, M5 = xs1 M4 37 2 (nI (offx ct 8 - n)) := ⟨_, rfl⟩
        have q3 : M1 3 t = nI (ct t) := by rw [e1, xcp_ne (by decide)]; exact c3
        have q4 : M2 1 2 = nI (offx ct 8) := by rw [e2, xs1_ne (by decide), e1, xcp_ne (by decide)]; exact h3
        have q5 : M3 39 t = nI (ct t) := by rw [e3, xs1_ne (by decide), e2, xs1_ne (by decide), e1, xcp_ne (by decide)]; exact c39
        have q6 : M4 37 2 = nI (offx ct 8) := by rw [e4, xs1_ne (by decide), e3, xs1_ne (by decide), e2, xs1_ne (by decide), e1, xcp_ne (by decide)]; exact g3
        have q7 : M3 3 t = nI (ct t - n) := by rw [e3, xs1_ne (by decide), e2, xs1_self]
        have q8 : M5 39 t = nI (ct t - n) := by rw [e5, xs1_ne (by decide), e4, xs1_self]
        have qc : xcin (nI (offx ct (t + 1))) (nI (offx ct (t + 1) - n)) (nI (offx ct 8 - offx ct (t + 1))) 400 400 := (xcin_nI (by omega) (by omega) (by omega)).mpr ⟨by omega, by omega⟩
        have hdrop : fX6_dropLast (nI t) (nI n) M = some M3 := by
          simp (disch := omega) only [fX6_dropLast_s, endOf_ok ht h2, Option.bind_some, nI_sub, h3, qc, xlt_def, ← e1, if_pos, if_true, xin_nI, nI_clamp, q3, ← e2, q4, ← e3]
        have m2 : ∀ j, M5 2 j = if offx ct (t + 1) - n ≤ j ∧ j < offx ct 8 - n then M 2 (j + n) else M 2 j := by
          intro j
          rw [e5, xs1_ne (by decide), e4, xs1_ne (by decide), e3, xs1_ne (by decide), e2, xs1_ne (by decide), e1, xcp_cell, nI_clamp (by omega), nI_clamp (by omega), nI_clamp (by omega)]
          by_cases b : offx ct (t + 1) - n ≤ j ∧ j < offx ct 8 - n
          · rw [if_pos (by omega), if_pos b, show offx ct (t + 1) + (j - (offx ct (t + 1) - n)) = j + n by omega]
          · rw [if_neg (by omega), if_neg b]
        have ho8 : offx (fup ct t (ct t - n)) 8 = offx ct 8 - n := by rw [offx_up, if_neg (by omega)]; omega
        refine ⟨nI (ct t - n), M3, M5, fup ct t (ct t - n), ?_, ?_, ⟨by omega, fun u hu => ?_, ?_, fun u k hu hk => ?_⟩, ⟨by omega, fun u hu => ?_, ?_, fun u k hu hk => ?_⟩, ?_⟩
        · simp (disch := omega) only [fX8_cut_s, t1, Option.bind_some, z1, hy, if_false, xin_nI, nI_clamp, c3, nI_le_iff, if_pos, if_true, hdrop, q7]
        · simp (disch := omega) only [fX9_cut_s, t2, Option.bind_some, z1, hy, if_false, xin_nI, nI_clamp, q5, nI_le_iff, if_pos, if_true, nI_sub, xlt_def, ← e4, q6, ← e5, q8]
        · have m3 : M5 3 u = if u = t then nI (ct t - n) else M 3 u := by
            rw [e5, xs1_ne (by decide), e4, xs1_ne (by decide), e3, xs1_ne (by decide), e2, xs1_cell, e1, xcp_ne (by decide)]
          rw [m3]
          by_cases e : u = t
          · subst e; rw [if_pos rfl, fup_self]
          · rw [if_neg e, fup_ne _ _ e]; exact h2 u hu
        · rw [e5, xs1_ne (by decide), e4, xs1_ne (by decide), e3, xs1_self, ho8]
        · rcases Nat.lt_trichotomy u t with g | g | g
          · rw [fup_ne _ _ (by omega)] at hk
            have h10 := offx_mono ct (show u + 1 ≤ t by omega)
            have h11 : offx ct (u + 1) = offx ct u + ct u := rfl
            have ho : offx (fup ct t (ct t - n)) u = offx ct u := by rw [offx_up, if_pos (by omega)]
            rw [ho, m2, if_neg (by omega)]
            exact h4 u k hu hk
          · subst g
            rw [fup_self] at hk
            have ho : offx (fup ct u (ct u - n)) u = offx ct u := by rw [offx_up, if_pos (by omega)]
            rw [ho, m2, if_neg (by omega)]
            exact h4 u k hu (by omega)
          · rw [fup_ne _ _ (by omega)] at hk
            have h10 := offx_mono ct (show t + 1 ≤ u by omega)
            have h11 : offx ct (u + 1) = offx ct u + ct u := rfl
            have h13 := offx_mono ct (show u + 1 ≤ 8 by omega)
            have ho : offx (fup ct t (ct t - n)) u = offx ct u - n := by rw [offx_up, if_neg (by omega)]; omega
            rw [ho, m2, if_pos (by omega), show offx ct u - n + k + n = offx ct u + k by omega]
            exact h4 u k hu hk
        · have m3 : M5 39 u = if u = t then nI (ct t - n) else M 39 u := by
            rw [e5, xs1_ne (by decide), e4, xs1_cell, e3, xs1_ne (by decide), e2, xs1_ne (by decide), e1, xcp_ne (by decide)]
          rw [m3]
          by_cases e : u = t
          · subst e; rw [if_pos rfl, fup_self]
          · rw [if_neg e, fup_ne _ _ e]; exact g2 u hu
        · rw [e5, xs1_self, ho8]
        · have m38 : M5 38 = M 38 := by rw [e5, xs1_ne (by decide), e4, xs1_ne (by decide), e3, xs1_ne (by decide), e2, xs1_ne (by decide), e1, xcp_ne (by decide)]
          rw [m38]
          by_cases e : u = t
          · subst e; rw [fup_self] at hk; exact g4 u k hu (by omega)
          · rw [fup_ne _ _ e] at hk; exact g4 u k hu hk
        · have f1 : Kp [2, 3, 38, 39] [(1, 2), (37, 2)] M M1 := by rw [e1]; exact Kp.fr (Fr.st (by decide))
          have f2 : Kp [2, 3, 38, 39] [(1, 2), (37, 2)] M1 M2 := by rw [e2]; exact Kp.s1 (by decide)
          have f3 : Kp [2, 3, 38, 39] [(1, 2), (37, 2)] M2 M3 := by rw [e3]; exact Kp.s2 (by decide)
          have f4 : Kp [2, 3, 38, 39] [(1, 2), (37, 2)] M3 M4 := by rw [e4]; exact Kp.s1 (by decide)
          have f5 : Kp [2, 3, 38, 39] [(1, 2), (37, 2)] M4 M5 := by rw [e5]; exact Kp.s2 (by decide)
          exact (((f1.tr f2).tr f3).tr f4).tr f5
      · refine no ?_ ?_
        · simp (disch := omega) only [fX8_cut_s, t1, Option.bind_some, z1, hy, if_false, xin_nI, nI_clamp, c3, nI_le_iff, if_pos, if_true, if_neg]
        · simp (disch := omega) only [fX9_cut_s, t2, Option.bind_some, z1, hy, if_false, xin_nI, nI_clamp, c39, nI_le_iff, if_pos, if_true, if_neg]
  · refine no ?_ ?_
    · simp only [fX8_cut_s, isText_0 hx, Option.bind_some, if_true]
    · have t0 : fX9_isText x M = some 0 := isText_0 hx M
      simp only [fX9_cut_s, t0, Option.bind_some, if_true]
/-! THE WHOLE is laid -/
def posx (ct : Nat → Nat) : Nat → Nat
  | 0 => 0
  | t + 1 => posx ct t + ct t + (if ct t = 0 then 0 else 1)
theorem posx_mono (ct : Nat → Nat) {a b : Nat} (h : a ≤ b) : posx ct a ≤ posx ct b := by
  induction b with
  | zero => rw [show a = 0 by omega]; exact Nat.le_refl _
  | succ b ih =>
    by_cases e : a = b + 1
    · subst e; exact Nat.le_refl _
    · have := ih (by omega)
      simp only [posx]
      omega
theorem posx_le (ct : Nat → Nat) : ∀ t, posx ct t ≤ offx ct t + t := by
  intro t
  induction t with
  | zero => exact Nat.le_refl _
  | succ t ih =>
    simp only [posx, offx]
    split <;> omega
theorem posx_bnd {ct : Nat → Nat} (h : offx ct 8 ≤ 400) {t : Nat} (ht : t ≤ 8) : posx ct t ≤ 408 := by
  have h1 := posx_mono ct ht
  have h2 := posx_le ct 8
  omega
/-- what has been laid of texts below t, and of text t the first k signs -/
def Laid (A B : Nat → Int32) (ct : Nat → Nat) (sg : Nat → Nat → Nat) (e s : Nat → Int32) (t k : Nat) : Prop :=
  (∀ u i, u < 8 → i < ct u → (u < t ∨ (u = t ∧ i < k)) → A (posx ct u + i) = s (sg u i) ∧ B (posx ct u + i) = nI u) ∧ (∀ u, u < t → u < 8 → 0 < ct u → A (posx ct u + ct u) = e u ∧ B (posx ct u + ct u) = nI u)
theorem Laid.sign {A B A2 B2 : Nat → Int32} {ct : Nat → Nat} {sg : Nat → Nat → Nat} {e s : Nat → Int32} {t k : Nat} (h : Laid A B ct sg e s t k) (ht : t < 8) (hk : k < ct t) (hA : ∀ j, A2 j = if j = posx ct t + k then s (sg t k) else A j) (hB : ∀ j, B2 j = if j = posx ct t + k then nI t else B j) : Laid A2 B2 ct sg e s t (k + 1) := by
  refine ⟨fun u i hu hi hc => ?_, fun u hu h8 h0 => ?_⟩
  · rw [hA, hB]
    by_cases g : u = t ∧ i = k
    · obtain ⟨rfl, rfl⟩ := g
      rw [if_pos rfl, if_pos rfl]
      exact ⟨rfl, rfl⟩
    · have hne : posx ct u + i ≠ posx ct t + k := by
        rcases Nat.lt_trichotomy u t with q | q | q
        · have h1 := posx_mono ct (show u + 1 ≤ t by omega)
          simp only [posx] at h1
          omega
        · subst q; omega
        · omega
      rw [if_neg hne, if_neg hne]
      exact h.1 u i hu hi (by omega)
  · have hne : posx ct u + ct u ≠ posx ct t + k := by
      have h1 := posx_mono ct (show u + 1 ≤ t by omega)
      simp only [posx] at h1
      rw [if_neg (by omega)] at h1
      omega
    rw [hA, hB, if_neg hne, if_neg hne]
    exact h.2 u hu h8 h0
theorem Laid.next {A B : Nat → Int32} {ct : Nat → Nat} {sg : Nat → Nat → Nat} {e s : Nat → Int32} {t : Nat} (h : Laid A B ct sg e s t (ct t)) (h0 : ct t = 0) : Laid A B ct sg e s (t + 1) 0 := by
  refine ⟨fun u i hu hi hc => h.1 u i hu hi ?_, fun u hu h8 hp => ?_⟩
  · rcases hc with g | g
    · by_cases q : u = t
      · subst q; omega
      · exact Or.inl (by omega)
    · omega
  · by_cases q : u = t
    · subst q; omega
    · exact h.2 u (by omega) h8 hp
theorem Laid.end {A B A2 B2 : Nat → Int32} {ct : Nat → Nat} {sg : Nat → Nat → Nat} {e s : Nat → Int32} {t : Nat} (h : Laid A B ct sg e s t (ct t)) (h0 : 0 < ct t) (hA : ∀ j, A2 j = if j = posx ct t + ct t then e t else A j) (hB : ∀ j, B2 j = if j = posx ct t + ct t then nI t else B j) : Laid A2 B2 ct sg e s (t + 1) 0 := by
  refine ⟨fun u i hu hi hc => ?_, fun u hu h8 hp => ?_⟩
  · have hne : posx ct u + i ≠ posx ct t + ct t := by
      rcases Nat.lt_trichotomy u t with q | q | q
      · have h1 := posx_mono ct (show u + 1 ≤ t by omega)
        simp only [posx] at h1
        omega
      · subst q; omega
      · omega
    rw [hA, hB, if_neg hne, if_neg hne]
    refine h.1 u i hu hi ?_
    rcases hc with g | g
    · by_cases q : u = t
      · subst q; exact Or.inr ⟨rfl, hi⟩
      · exact Or.inl (by omega)
    · omega
  · rw [hA, hB]
    by_cases q : u = t
    · subst q
      rw [if_pos rfl, if_pos rfl]
      exact ⟨rfl, rfl⟩
    · have hne : posx ct u + ct u ≠ posx ct t + ct t := by
        have h1 := posx_mono ct (show u + 1 ≤ t by omega)
        simp only [posx] at h1
        rw [if_neg (by omega)] at h1
        omega
      rw [if_neg hne, if_neg hne]
      exact h.2 u (by omega) h8 hp
