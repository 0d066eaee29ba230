/-! THE TEXTS: add, cut -/
def offx (ct : Nat → Nat) : Nat → Nat
  | 0 => 0
  | t + 1 => offx ct t + ct t
theorem offx_mono (ct : Nat → Nat) {a b : Nat} (h : a ≤ b) : offx ct a ≤ offx ct b := by
  induction b with
  | zero => rw [show a = 0 by omega]; exact Nat.le_refl _
  | succ b ih =>
    by_cases e : a = b + 1
    · subst e; exact Nat.le_refl _
    · have := ih (by omega)
      simp only [offx]
      omega
theorem offx_up (ct : Nat → Nat) (t v : Nat) : ∀ u, offx (fup ct t v) u = if u ≤ t then offx ct u else offx ct u - ct t + v := by
  intro u
  induction u with
  | zero => simp [offx]
  | succ u ih =>
    simp only [offx]
    rw [ih]
    by_cases h1 : u < t
    · rw [if_pos (by omega), if_pos (by omega), fup_ne _ _ (by omega)]
    · by_cases h2 : u = t
      · subst h2
        rw [if_pos (by omega), if_neg (by omega), fup_self]
        omega
      · rw [if_neg (by omega), if_neg (by omega), fup_ne _ _ h2]
        have := offx_mono ct (show t + 1 ≤ u by omega)
        simp only [offx] at this
        omega
/-- the texts in the class's cells, in the reference's -/
def RTc (M : xM) (ct : Nat → Nat) (sg : Nat → Nat → Nat) : Prop := offx ct 8 ≤ 400 ∧ (∀ t, t < 8 → M 3 t = nI (ct t)) ∧ M 1 2 = nI (offx ct 8) ∧ ∀ t k, t < 8 → k < ct t → sg t k ≤ 999 ∧ M 2 (offx ct t + k) = nI (sg t k)
def RTm (M : xM) (ct : Nat → Nat) (sg : Nat → Nat → Nat) : Prop := offx ct 8 ≤ 400 ∧ (∀ t, t < 8 → M 39 t = nI (ct t)) ∧ M 37 2 = nI (offx ct 8) ∧ ∀ t k, t < 8 → k < ct t → sg t k ≤ 999 ∧ M 38 (400 * t + k) = nI (sg t k)
/-- what a method that is not about a thing leaves: cells as a whole, and single numbers of objects -/
def Kp (ks : List Nat) (js : List (Nat × Nat)) (M M2 : xM) : Prop := ∀ k, k ∉ ks → ∀ j, (k, j) ∉ js → M2 k j = M k j
theorem Kp.rf {ks : List Nat} {js : List (Nat × Nat)} {M : xM} : Kp ks js M M := fun _ _ _ _ => rfl
theorem Kp.tr {ks : List Nat} {js : List (Nat × Nat)} {M M2 M3 : xM} (h : Kp ks js M M2) (h2 : Kp ks js M2 M3) : Kp ks js M M3 := fun k hk j hj => (h2 k hk j hj).trans (h k hk j hj)
theorem Kp.mono {ks ks2 : List Nat} {js js2 : List (Nat × Nat)} {M M2 : xM} (h : Kp ks js M M2) (hs : ∀ k, k ∈ ks → k ∈ ks2) (hs2 : ∀ q, q ∈ js → q ∈ js2) : Kp ks2 js2 M M2 := fun k hk j hj => h k (fun g => hk (hs k g)) j (fun g => hj (hs2 _ g))
theorem Kp.s1 {ks : List Nat} {js : List (Nat × Nat)} {M : xM} {k j : Nat} {v : Int32} (hk : k ∈ ks) : Kp ks js M (xs1 M k j v) := fun a ha _ _ => by
  have hne : a ≠ k := fun e => ha (e ▸ hk)
  rw [xs1_ne hne]
theorem Kp.s2 {ks : List Nat} {js : List (Nat × Nat)} {M : xM} {k j : Nat} {v : Int32} (hk : (k, j) ∈ js) : Kp ks js M (xs1 M k j v) := fun a _ i hi => by
  by_cases e : a = k
  · subst e
    rw [xs1_cell, if_neg]
    intro e
    subst e
    exact hi hk
  · rw [xs1_ne e]
theorem Kp.fr {ks : List Nat} {js : List (Nat × Nat)} {M M2 : xM} (h : Fr ks M M2) : Kp ks js M M2 := fun k hk j _ => by rw [h k hk]
theorem Kp.cell {ks : List Nat} {js : List (Nat × Nat)} {M M2 : xM} (h : Kp ks js M M2) {k : Nat} (hk : k ∉ ks) (hj : ∀ j, (k, j) ∉ js) : M2 k = M k := funext fun j => h k hk j (hj j)
theorem endOf_loop {M : xM} {ct : Nat → Nat} {t : Nat} (ht : t < 8) (h3 : ∀ u, u < 8 → M 3 u = nI (ct u)) : ∀ (d u fuel : Nat), u + d = t + 1 → d < fuel → fX6_endOf_4 fuel (nI t) (nI (offx ct u)) (nI u) M = some (nI (offx ct (t + 1))) := by
  intro d
  induction d with
  | zero =>
    intro u fuel hu hf
    obtain ⟨f, rfl⟩ : ∃ f, fuel = f + 1 := ⟨fuel - 1, by omega⟩
    have : u = t + 1 := by omega
    subst this
    simp (disch := omega) only [fX6_endOf_4_s, nI_lt_iff, if_pos, if_true]
  | succ d ih =>
    intro u fuel hu hf
    obtain ⟨f, rfl⟩ : ∃ f, fuel = f + 1 := ⟨fuel - 1, by omega⟩
    have h := ih (u + 1) f (by omega) (by omega)
    have e : offx ct (u + 1) = offx ct u + ct u := rfl
    rw [e] at h
    have h3u := h3 u (by omega)
    simp (disch := omega) only [fX6_endOf_4_s, nI_lt_iff, if_neg, if_pos, if_true, if_false, xin_nI, nI_clamp, h3u, nI_plus, xlt_def, nI_add1, h]
theorem endOf_ok {M : xM} {ct : Nat → Nat} {t : Nat} (ht : t < 8) (h3 : ∀ u, u < 8 → M 3 u = nI (ct u)) : fX6_endOf (nI t) M = some (nI (offx ct (t + 1))) := by
  rw [fX6_endOf_s]
  exact endOf_loop ht h3 (t + 1) 0 4096 (by omega) (by omega)
def pushS (sg : Nat → Nat → Nat) (ct : Nat → Nat) (t s : Nat) : Nat → Nat → Nat := fun u k => if u = t ∧ k = ct t then s else sg u k
theorem append_c {M : xM} {ct : Nat → Nat} {sg : Nat → Nat → Nat} {t s : Nat} (h : RTc M ct sg) (ht : t < 8) (hs : s ≤ 999) (hr : offx ct 8 < 400) :
    ∃ M2, fX6_append (nI t) (nI s) M = some M2 ∧ RTc M2 (fup ct t (ct t + 1)) (pushS sg ct t s) ∧ Kp [2, 3] [(1, 2)] M M2 := by
  obtain ⟨h1, h2, h3, h4⟩ := h
  have he := endOf_ok ht h2
  have hm := offx_mono ct (show t + 1 ≤ 8 by omega)
  have h2t := h2 t ht
  obtain ⟨M1, e1⟩ : ∃ M1, M1 = xcp M 2 2 (nI (offx ct (t + 1))) (nI (offx ct (t + 1) + 1)) (nI (offx ct 8 - offx ct (t + 1))) := ⟨_, rfl⟩
  obtain ⟨M2, e2⟩ : ∃ M2, M2 = xs1 M1 2 (offx ct (t + 1)) (nI s) := ⟨_, rfl⟩
  obtain ⟨M3, e3⟩ : ∃ M3, M3 = xs1 M2 3 t (nI (ct t + 1)) := ⟨_, rfl⟩
  obtain ⟨M4, e4⟩ : ∃ M4, M4 = xs1 M3 1 2 (nI (offx ct 8 + 1)) := ⟨_, rfl⟩
  have m2 : ∀ j, M4 2 j = if j = offx ct (t + 1) then nI s else if offx ct (t + 1) + 1 ≤ j ∧ j < offx ct 8 + 1 then M 2 (j - 1) else M 2 j := by
    intro j
    rw [e4, xs1_ne (by decide), e3, xs1_ne (by decide), e2, xs1_cell, e1, xcp_cell, nI_clamp (by omega), nI_clamp (by omega), nI_clamp (by omega)]
    by_cases a : j = offx ct (t + 1)
    · rw [if_pos a, if_pos a]
    · rw [if_neg a, if_neg a]
      by_cases b : offx ct (t + 1) + 1 ≤ j ∧ j < offx ct 8 + 1
      · rw [if_pos (by omega), if_pos b, show offx ct (t + 1) + (j - (offx ct (t + 1) + 1)) = j - 1 by omega]
      · rw [if_neg (by omega), if_neg b]
  have m3 : ∀ u, M4 3 u = if u = t then nI (ct t + 1) else M 3 u := by
    intro u
    rw [e4, xs1_ne (by decide), e3, xs1_cell, e2, xs1_ne (by decide), e1, xcp_ne (by decide)]
  refine ⟨M4, ?_, ⟨?_, fun u hu => ?_, ?_, fun u k hu hk => ?_⟩, ?_⟩
  · have q1 : ¬ nI s = -1 := nI_nem1 (by omega)
    have q2 : (400 : Int32) = nI 400 := rfl
    have q3 : M1 3 t = nI (ct t) := by rw [e1, xcp_ne (by decide)]; exact h2t
    have q4 : M2 3 t = nI (ct t) := by rw [e2, xs1_ne (by decide)]; exact q3
    have q5 : M3 1 2 = nI (offx ct 8) := by rw [e3, xs1_ne (by decide), e2, xs1_ne (by decide), e1, xcp_ne (by decide)]; exact h3
    have q6 : xcin (nI (offx ct (t + 1))) (nI (offx ct (t + 1) + 1)) (nI (offx ct 8 - offx ct (t + 1))) 400 400 := (xcin_nI (by omega) (by omega) (by omega)).mpr ⟨by omega, by omega⟩
    simp (disch := omega) only [fX6_append_s, q1, if_false, h3, q2, nI_lt_iff, if_pos, if_true, he, Option.bind_some, nI_add1, nI_sub, q6, xlt_def, ← e1, xin_nI, nI_clamp, ← e2, q4, ← e3, q5, ← e4]
  · rw [offx_up, if_neg (by omega)]
    have h9 : offx ct (t + 1) = offx ct t + ct t := rfl
    omega
  · rw [m3]
    by_cases e : u = t
    · subst e; rw [if_pos rfl, fup_self]
    · rw [if_neg e, fup_ne _ _ e]; exact h2 u hu
  · rw [e4, xs1_self, offx_up, if_neg (by omega)]
    congr 1
    have h9 : offx ct (t + 1) = offx ct t + ct t := rfl
    omega
  · have h9 : offx ct (t + 1) = offx ct t + ct t := rfl
    rcases Nat.lt_trichotomy u t with g | g | g
    · rw [fup_ne _ _ (by omega)] at hk
      have h10 := offx_mono ct (show u + 1 ≤ t by omega)
      have h11 : offx ct (u + 1) = offx ct u + ct u := rfl
      have h12 : pushS sg ct t s u k = sg u k := by unfold pushS; rw [if_neg (by omega)]
      have ho : offx (fup ct t (ct t + 1)) u = offx ct u := by rw [offx_up, if_pos (by omega)]
      rw [ho, m2, if_neg (by omega), if_neg (by omega), h12]
      exact h4 u k hu hk
    · subst g
      rw [fup_self] at hk
      have ho : offx (fup ct u (ct u + 1)) u = offx ct u := by rw [offx_up, if_pos (by omega)]
      rw [ho, m2]
      by_cases e : k = ct u
      · subst e
        have h12 : pushS sg ct u s u (ct u) = s := by unfold pushS; rw [if_pos ⟨rfl, rfl⟩]
        rw [if_pos (by omega), h12]
        exact ⟨hs, rfl⟩
      · have h12 : pushS sg ct u s u k = sg u k := by unfold pushS; rw [if_neg (by omega)]
        rw [if_neg (by omega), if_neg (by omega), h12]
        exact h4 u k hu (by omega)
    · rw [fup_ne _ _ (by omega)] at hk
      have h10 := offx_mono ct (show t + 1 ≤ u by omega)
      have h11 : offx ct (u + 1) = offx ct u + ct u := rfl
      have h13 := offx_mono ct (show u + 1 ≤ 8 by omega)
      have h12 : pushS sg ct t s u k = sg u k := by unfold pushS; rw [if_neg (by omega)]
      have ho : offx (fup ct t (ct t + 1)) u = offx ct u + 1 := by rw [offx_up, if_neg (by omega)]; omega
      rw [ho, m2, if_neg (by omega), if_pos (by omega), h12, show offx ct u + 1 + k - 1 = offx ct u + k by omega]
      exact h4 u k hu hk
  · have f1 : Kp [2, 3] [(1, 2)] M M1 := by rw [e1]; exact Kp.fr (Fr.st (by decide))
    have f2 : Kp [2, 3] [(1, 2)] M1 M2 := by rw [e2]; exact Kp.s1 (by decide)
    have f3 : Kp [2, 3] [(1, 2)] M2 M3 := by rw [e3]; exact Kp.s1 (by decide)
    have f4 : Kp [2, 3] [(1, 2)] M3 M4 := by rw [e4]; exact Kp.s2 (by decide)
    exact ((f1.tr f2).tr f3).tr f4
theorem come_m {M : xM} {ct : Nat → Nat} {sg : Nat → Nat → Nat} {t s : Nat} (h : RTm M ct sg) (ht : t < 8) (hs : s ≤ 999) (hr : offx ct 8 < 400) :
    ∃ M2, fX9_comeTo (nI t) (nI s) M = some M2 ∧ RTm M2 (fup ct t (ct t + 1)) (pushS sg ct t s) ∧ Kp [38, 39] [(37, 2)] M M2 := by
  obtain ⟨h1, h2, h3, h4⟩ := h
  have hm := offx_mono ct (show t + 1 ≤ 8 by omega)
  have h9 : offx ct (t + 1) = offx ct t + ct t := rfl
  have h2t := h2 t ht
  obtain ⟨M1, e1⟩ : ∃ M1, M1 = xs1 M 38 (400 * t + ct t) (nI s) := ⟨_, rfl⟩
  obtain ⟨M2, e2⟩ : ∃ M2, M2 = xs1 M1 39 t (nI (ct t + 1)) := ⟨_, rfl⟩
  obtain ⟨M3, e3⟩ : ∃ M3, M3 = xs1 M2 37 2 (nI (offx ct 8 + 1)) := ⟨_, rfl⟩
  have m38 : ∀ j, M3 38 j = if j = 400 * t + ct t then nI s else M 38 j := by
    intro j
    rw [e3, xs1_ne (by decide), e2, xs1_ne (by decide), e1, xs1_cell]
  have m39 : ∀ u, M3 39 u = if u = t then nI (ct t + 1) else M 39 u := by
    intro u
    rw [e3, xs1_ne (by decide), e2, xs1_cell, e1, xs1_ne (by decide)]
  refine ⟨M3, ?_, ⟨?_, fun u hu => ?_, ?_, fun u k hu hk => ?_⟩, ?_⟩
  · have q1 : (400 : Int32) = nI 400 := rfl
    have q2 : M1 39 t = nI (ct t) := by rw [e1, xs1_ne (by decide)]; exact h2t
    have q3 : M2 37 2 = nI (offx ct 8) := by rw [e2, xs1_ne (by decide), e1, xs1_ne (by decide)]; exact h3
    simp (disch := omega) only [fX9_comeTo_s, nI_lt0, if_false, q1, nI_mul, nI_clamp, h2t, nI_plus, xin_nI, if_pos, if_true, xlt_def, ← e1, q2, nI_add1, ← e2, q3, ← e3]
  · rw [offx_up, if_neg (by omega)]; omega
  · rw [m39]
    by_cases e : u = t
    · subst e; rw [if_pos rfl, fup_self]
    · rw [if_neg e, fup_ne _ _ e]; exact h2 u hu
  · rw [e3, xs1_self, offx_up, if_neg (by omega)]
    congr 1
    omega
  · rw [m38]
    have h13 := offx_mono ct (show u + 1 ≤ 8 by omega)
    have h14 : offx ct (u + 1) = offx ct u + ct u := rfl
    by_cases g : u = t
    · subst g
      rw [fup_self] at hk
      by_cases e : k = ct u
      · subst e
        have h12 : pushS sg ct u s u (ct u) = s := by unfold pushS; rw [if_pos ⟨rfl, rfl⟩]
        rw [if_pos rfl, h12]
        exact ⟨hs, rfl⟩
      · have h12 : pushS sg ct u s u k = sg u k := by unfold pushS; rw [if_neg (by omega)]
        rw [if_neg (by omega), h12]
        exact h4 u k hu (by omega)
    · rw [fup_ne _ _ g] at hk
      have h12 : pushS sg ct t s u k = sg u k := by unfold pushS; rw [if_neg (by omega)]
      rw [if_neg (by omega), h12]
      exact h4 u k hu hk
  · have f1 : Kp [38, 39] [(37, 2)] M M1 := by rw [e1]; exact Kp.s1 (by decide)
    have f2 : Kp [38, 39] [(37, 2)] M1 M2 := by rw [e2]; exact Kp.s1 (by decide)
    have f3 : Kp [38, 39] [(37, 2)] M2 M3 := by rw [e3]; exact Kp.s2 (by decide)
    exact (f1.tr f2).tr f3
/-- an argument that is a sign or NONE -/
abbrev okS (x : Int32) : Prop := ¬ x < -1 ∧ ¬ 999 < x
theorem okS_cases {x : Int32} (h : okS x) : x = -1 ∨ ∃ s, s ≤ 999 ∧ x = nI s := by
  obtain ⟨h1, h2⟩ := h
  rw [Int32.lt_iff_toInt_lt] at h1 h2
  have e1 : (-1 : Int32).toInt = -1 := by decide
  have e2 : (999 : Int32).toInt = 999 := by decide
  rw [e1] at h1
  rw [e2] at h2
  by_cases h : x.toInt = -1
  · left
    apply Int32.toInt_inj.mp
    rw [h, e1]
  · right
    refine ⟨x.toInt.toNat, by omega, ?_⟩
    apply Int32.toInt_inj.mp
    rw [nI_toInt (by omega)]
    omega
def cS (x : Int32) : Nat := if x = -1 then 0 else 1
theorem sgn_c (x : Int32) (M : xM) : fX8_isSignOrNone x M = some (if okS x then 1 else 0) := by
  rw [fX8_isSignOrNone_s]
  unfold okS
  by_cases h1 : x < -1
  · rw [if_pos h1, if_neg (fun g => g.1 h1)]
  · rw [if_neg h1]
    by_cases h2 : 999 < x
    · rw [if_pos h2, if_neg (fun g => g.2 h2)]
    · rw [if_neg h2, if_pos ⟨h1, h2⟩]
theorem sgn_m (x : Int32) (M : xM) : fX9_isGiven x M = some (if okS x then 1 else 0) := by
  rw [fX9_isGiven_s]
  unfold okS
  have e : (1000 : Int32) ≤ x ↔ 999 < x := by
    rw [Int32.le_iff_toInt_le, Int32.lt_iff_toInt_lt]
    have e1 : (1000 : Int32).toInt = 1000 := by decide
    have e2 : (999 : Int32).toInt = 999 := by decide
    omega
  by_cases h1 : x < -1
  · rw [if_pos h1, if_neg (fun g => g.1 h1)]
  · rw [if_neg h1]
    by_cases h2 : 999 < x
    · rw [if_pos (e.mpr h2), if_neg (fun g => g.2 h2)]
    · rw [if_neg (fun g => h2 (e.mp g)), if_pos ⟨h1, h2⟩]
theorem one_c (x : Int32) (M : xM) : fX8_oneIfSign x M = some (nI (cS x)) := by
  rw [fX8_oneIfSign_s]
  unfold cS
  by_cases h : x = -1
  · rw [if_pos h, if_pos h]; rfl
  · rw [if_neg h, if_neg h]; rfl
theorem sgn_c1 {x : Int32} (h : okS x) (M : xM) : fX8_isSignOrNone x M = some 1 := by rw [sgn_c, if_pos h]
theorem sgn_c0 {x : Int32} (h : ¬ okS x) (M : xM) : fX8_isSignOrNone x M = some 0 := by rw [sgn_c, if_neg h]
theorem sgn_m1 {x : Int32} (h : okS x) (M : xM) : fX9_isGiven x M = some 1 := by rw [sgn_m, if_pos h]
theorem sgn_m0 {x : Int32} (h : ¬ okS x) (M : xM) : fX9_isGiven x M = some 0 := by rw [sgn_m, if_neg h]
theorem count_c1 {a b c d : Int32} (M : xM) (ha : okS a) (hb : okS b) (hc : okS c) (hd : okS d) : fX8_countSigns a b c d M = some (nI (cS a + cS b + cS c + cS d)) := by
  have z1 : ¬ (1 : Int32) = 0 := by decide
  simp only [fX8_countSigns_s, sgn_c1 ha, sgn_c1 hb, sgn_c1 hc, sgn_c1 hd, one_c, Option.bind_some, z1, if_false, nI_plus]
theorem count_c0 {a b c d : Int32} (M : xM) (h : ¬ (okS a ∧ okS b ∧ okS c ∧ okS d)) : fX8_countSigns a b c d M = some (-1) := by
  have z1 : ¬ (1 : Int32) = 0 := by decide
  by_cases ha : okS a
  · by_cases hb : okS b
    · by_cases hc : okS c
      · by_cases hd : okS d
        · exact absurd ⟨ha, hb, hc, hd⟩ h
        · simp only [fX8_countSigns_s, sgn_c1 ha, sgn_c1 hb, sgn_c1 hc, sgn_c0 hd, Option.bind_some, z1, if_true, if_false]
      · simp only [fX8_countSigns_s, sgn_c1 ha, sgn_c1 hb, sgn_c0 hc, Option.bind_some, z1, if_true, if_false]
    · simp only [fX8_countSigns_s, sgn_c1 ha, sgn_c0 hb, Option.bind_some, z1, if_true, if_false]
  · simp only [fX8_countSigns_s, sgn_c0 ha, Option.bind_some, if_true]
theorem given_pos {x : Int32} (h : okS x) : (0 ≤ x ↔ ¬ x = -1) := by
  rcases okS_cases h with e | ⟨s, hs, e⟩
  · subst e; exact ⟨fun g => absurd g (by decide), fun g => absurd rfl g⟩
  · subst e
    exact ⟨fun _ => nI_nem1 (by omega), fun _ => nI_pos' (by omega)⟩
theorem given_m {a b c d : Int32} (M : xM) (ha : okS a) (hb : okS b) (hc : okS c) (hd : okS d) : fX9_given a b c d M = some (nI (cS a + cS b + cS c + cS d)) := by
  have key : ∀ (x : Int32), okS x → (0 ≤ x ∧ cS x = 1) ∨ (¬ 0 ≤ x ∧ cS x = 0) := by
    intro x hx
    unfold cS
    by_cases h : x = -1
    · right; rw [if_pos h]; exact ⟨fun g => (given_pos hx).mp g h, rfl⟩
    · left; rw [if_neg h]; exact ⟨(given_pos hx).mpr h, rfl⟩
  have e0 : (0 : Int32) = nI 0 := rfl
  have e1 : (1 : Int32) = nI 1 := rfl
  rcases key a ha with ⟨a1, a2⟩ | ⟨a1, a2⟩ <;> rcases key b hb with ⟨b1, b2⟩ | ⟨b1, b2⟩ <;> rcases key c hc with ⟨c1, c2⟩ | ⟨c1, c2⟩ <;> rcases key d hd with ⟨d1, d2⟩ | ⟨d1, d2⟩ <;>
    simp only [fX9_given_s, fX9_given_9_s, fX9_given_18_s, fX9_given_28_s, fX9_given_38_s, a1, b1, c1, d1, if_true, if_false, a2, b2, c2, d2] <;> rfl
theorem isText_c (x : Int32) (M : xM) : fX8_isText x M = some (if xin x 8 then 1 else 0) := by
  rw [fX8_isText_s]
  have e : (8 : Int32) ≤ x ↔ 8 ≤ x.toNatClampNeg := by
    rw [Int32.le_iff_toInt_le]
    have e1 : (8 : Int32).toInt = 8 := by decide
    rw [e1]
    unfold Int32.toNatClampNeg
    omega
  by_cases h1 : x < 0
  · rw [if_pos h1, if_neg (fun g => g (Or.inl h1))]
  · rw [if_neg h1]
    by_cases h2 : 8 ≤ x
    · rw [if_pos h2, if_neg (fun g => g (Or.inr (e.mp h2)))]
    · rw [if_neg h2, if_pos (fun g => g.elim h1 (fun q => h2 (e.mpr q)))]
theorem isText_m (x : Int32) (M : xM) : fX9_isText x M = some (if xin x 8 then 1 else 0) := isText_c x M
theorem isText_1 {t : Nat} (h : t < 8) (M : xM) : fX8_isText (nI t) M = some 1 := by rw [isText_c, if_pos (xin_of h (by omega))]
theorem isText_0 {x : Int32} (h : ¬ xin x 8) (M : xM) : fX8_isText x M = some 0 := by rw [isText_c, if_neg h]
/-- up to four signs come -/
def comeC (ct : Nat → Nat) (t : Nat) (x : Int32) : Nat → Nat := if x = -1 then ct else fup ct t (ct t + 1)
def comeS (sg : Nat → Nat → Nat) (ct : Nat → Nat) (t : Nat) (x : Int32) : Nat → Nat → Nat := if x = -1 then sg else pushS sg ct t x.toNatClampNeg
theorem come_sum (ct : Nat → Nat) {t : Nat} (ht : t < 8) (x : Int32) : offx (comeC ct t x) 8 = offx ct 8 + cS x := by
  unfold comeC cS
  by_cases h : x = -1
  · rw [if_pos h, if_pos h]; rfl
  · rw [if_neg h, if_neg h, offx_up, if_neg (by omega)]
    have h9 : offx ct (t + 1) = offx ct t + ct t := rfl
    have := offx_mono ct (show t + 1 ≤ 8 by omega)
    omega
theorem come_c {M : xM} {ct : Nat → Nat} {sg : Nat → Nat → Nat} {t : Nat} {x : Int32} (h : RTc M ct sg) (ht : t < 8) (hx : okS x) (hr : offx ct 8 + cS x ≤ 400) :
    ∃ M2, fX6_append (nI t) x M = some M2 ∧ RTc M2 (comeC ct t x) (comeS sg ct t x) ∧ Kp [2, 3] [(1, 2)] M M2 := by
  rcases okS_cases hx with e | ⟨s, hs, e⟩
  · subst e
    refine ⟨M, ?_, ?_, Kp.rf⟩
    · rw [fX6_append_s, if_pos rfl]
    · unfold comeC comeS; rw [if_pos rfl, if_pos rfl]; exact h
  · subst e
    have hne := nI_nem1 (a := s) (by omega)
    unfold cS at hr
    rw [if_neg hne] at hr
    unfold comeC comeS
    rw [if_neg hne, if_neg hne, nI_clamp (by omega)]
    exact append_c h ht hs (by omega)
theorem come_m2 {M : xM} {ct : Nat → Nat} {sg : Nat → Nat → Nat} {t : Nat} {x : Int32} (h : RTm M ct sg) (ht : t < 8) (hx : okS x) (hr : offx ct 8 + cS x ≤ 400) :
    ∃ M2, fX9_comeTo (nI t) x M = some M2 ∧ RTm M2 (comeC ct t x) (comeS sg ct t x) ∧ Kp [38, 39] [(37, 2)] M M2 := by
  rcases okS_cases hx with e | ⟨s, hs, e⟩
  · subst e
    refine ⟨M, ?_, ?_, Kp.rf⟩
    · rw [fX9_comeTo_s, if_pos (by decide)]
    · unfold comeC comeS; rw [if_pos rfl, if_pos rfl]; exact h
  · subst e
    have hne := nI_nem1 (a := s) (by omega)
    unfold cS at hr
    rw [if_neg hne] at hr
    unfold comeC comeS
    rw [if_neg hne, if_neg hne, nI_clamp (by omega)]
    exact come_m h ht hs (by omega)
/-- ADD -/
theorem add_ok {M : xM} {ct : Nat → Nat} {sg : Nat → Nat → Nat} (hc : RTc M ct sg) (hm : RTm M ct sg) (x a b c d : Int32) :
    ∃ (r : Int32) (M1 M2 : xM) (ct2 : Nat → Nat) (sg2 : Nat → Nat → Nat), fX8_add x a b c d M = some (r, M1) ∧ fX9_add x a b c d M1 = some (r, M2) ∧ RTc M2 ct2 sg2 ∧ RTm M2 ct2 sg2 ∧ Kp [2, 3, 38, 39] [(1, 2), (37, 2)] M M2 := by
  have z1 : ¬ (1 : Int32) = 0 := by decide
  have no : ∀ (h1 : fX8_add x a b c d M = some (-1, M)) (h2 : fX9_add x a b c d M = some (-1, M)), ∃ (r : Int32) (M1 M2 : xM) (ct2 : Nat → Nat) (sg2 : Nat → Nat → Nat), fX8_add x a b c d M = some (r, M1) ∧ fX9_add x a b c d M1 = some (r, M2) ∧ RTc M2 ct2 sg2 ∧ RTm M2 ct2 sg2 ∧ Kp [2, 3, 38, 39] [(1, 2), (37, 2)] M M2 :=
    fun h1 h2 => ⟨-1, M, M, ct, sg, h1, h2, hc, hm, Kp.rf⟩
  by_cases hx : xin x 8
  · obtain ⟨t, ht, rfl⟩ := xin_ex hx
    have t1 := isText_1 ht
    have t2 : ∀ M, fX9_isText (nI t) M = some 1 := t1
    by_cases hs : okS a ∧ okS b ∧ okS c ∧ okS d
    · obtain ⟨ha, hb, hcc, hd⟩ := hs
      have e400 : (400 : Int32) = nI 400 := rfl
      have hsum := hc.1
      have l1 : ∀ x, cS x ≤ 1 := fun x => by unfold cS; split <;> omega
      have la := l1 a
      have lb := l1 b
      have lc := l1 c
      have ld := l1 d
      have k1 := hc.2.2.1
      have k2 := hm.2.2.1
      have hcn : ¬ nI (cS a + cS b + cS c + cS d) = -1 := nI_nem1 (by omega)
      by_cases hr : offx ct 8 + (cS a + cS b + cS c + cS d) ≤ 400
      · obtain ⟨N1, a1, a2, a3⟩ := come_c hc ht ha (by omega)
        have s1 := come_sum ct ht a
        obtain ⟨N2, b1, b2, b3⟩ := come_c a2 ht hb (by omega)
        have s2 := come_sum (comeC ct t a) ht b
        obtain ⟨N3, c1, c2, c3⟩ := come_c b2 ht hcc (by omega)
        have s3 := come_sum (comeC (comeC ct t a) t b) ht c
        obtain ⟨N4, d1, d2, d3⟩ := come_c c2 ht hd (by omega)
        have K4 : Kp [2, 3] [(1, 2)] M N4 := ((a3.tr b3).tr c3).tr d3
        have hm4 : RTm N4 ct sg := by
          obtain ⟨w1, w2, w3, w4⟩ := hm
          have f39 : N4 39 = M 39 := K4.cell (by decide) (fun j => by simp)
          have f38 : N4 38 = M 38 := K4.cell (by decide) (fun j => by simp)
          have f37 : N4 37 = M 37 := K4.cell (by decide) (fun j => by simp)
          exact ⟨w1, by rw [f39]; exact w2, by rw [f37]; exact w3, by rw [f38]; exact w4⟩
        obtain ⟨P1, p1, p2, p3⟩ := come_m2 hm4 ht ha (by omega)
        obtain ⟨P2, q1, q2, q3⟩ := come_m2 p2 ht hb (by omega)
        obtain ⟨P3, r1, r2, r3⟩ := come_m2 q2 ht hcc (by omega)
        obtain ⟨P4, s1', s2', s3'⟩ := come_m2 r2 ht hd (by omega)
        have KP : Kp [38, 39] [(37, 2)] N4 P4 := ((p3.tr q3).tr r3).tr s3'
        have hc4 : RTc P4 (comeC (comeC (comeC (comeC ct t a) t b) t c) t d) (comeS (comeS (comeS (comeS sg ct t a) (comeC ct t a) t b) (comeC (comeC ct t a) t b) t c) (comeC (comeC (comeC ct t a) t b) t c) t d) := by
          obtain ⟨w1, w2, w3, w4⟩ := d2
          have f1 : P4 1 = N4 1 := KP.cell (by decide) (fun j => by simp)
          have f2 : P4 2 = N4 2 := KP.cell (by decide) (fun j => by simp)
          have f3 : P4 3 = N4 3 := KP.cell (by decide) (fun j => by simp)
          exact ⟨w1, by rw [f3]; exact w2, by rw [f1]; exact w3, by rw [f2]; exact w4⟩
        refine ⟨N4 3 t, N4, P4, _, _, ?_, ?_, hc4, s2', ?_⟩
        · simp (disch := omega) only [fX8_add_s, count_c1 M ha hb hcc hd, Option.bind_some, t1, z1, hcn, if_false, k1, nI_plus, e400, nI_le_iff, if_pos, if_true, a1, b1, c1, d1, xin_nI, nI_clamp]
        · have k3 : N4 37 2 = nI (offx ct 8) := hm4.2.2.1
          have kk : P4 39 t = N4 3 t := by rw [s2'.2.1 t ht, d2.2.1 t ht]
          simp (disch := omega) only [fX9_add_s, t2, Option.bind_some, z1, if_false, sgn_m1 ha, sgn_m1 hb, sgn_m1 hcc, sgn_m1 hd, given_m N4 ha hb hcc hd, k3, nI_plus, e400, nI_le_iff, if_pos, if_true, p1, q1, r1, s1', xin_nI, nI_clamp, kk]
        · exact (K4.mono (fun k hk => by simp at hk ⊢; omega) (fun q hq => by simp at hq ⊢; exact Or.inl hq)).tr (KP.mono (fun k hk => by simp at hk ⊢; omega) (fun q hq => by simp at hq ⊢; exact Or.inr hq))
      · refine no ?_ ?_
        · simp (disch := omega) only [fX8_add_s, count_c1 M ha hb hcc hd, Option.bind_some, t1, z1, hcn, if_false, k1, nI_plus, e400, nI_le_iff, if_neg]
        · simp (disch := omega) only [fX9_add_s, t2, Option.bind_some, z1, if_false, sgn_m1 ha, sgn_m1 hb, sgn_m1 hcc, sgn_m1 hd, given_m M ha hb hcc hd, k2, nI_plus, e400, nI_le_iff, if_neg]
    · refine no ?_ ?_
      · simp only [fX8_add_s, count_c0 M hs, Option.bind_some, t1, z1, if_false, if_true]
      · by_cases ha : okS a
        · by_cases hb : okS b
          · by_cases hcc : okS c
            · by_cases hd : okS d
              · exact absurd ⟨ha, hb, hcc, hd⟩ hs
              · simp only [fX9_add_s, t2, sgn_m1 ha, sgn_m1 hb, sgn_m1 hcc, sgn_m0 hd, Option.bind_some, z1, if_true, if_false]
            · simp only [fX9_add_s, t2, sgn_m1 ha, sgn_m1 hb, sgn_m0 hcc, Option.bind_some, z1, if_true, if_false]
          · simp only [fX9_add_s, t2, sgn_m1 ha, sgn_m0 hb, Option.bind_some, z1, if_true, if_false]
        · simp only [fX9_add_s, t2, sgn_m0 ha, Option.bind_some, z1, if_true, if_false]
  · refine no ?_ ?_
    · by_cases hs : okS a ∧ okS b ∧ okS c ∧ okS d
      · simp only [fX8_add_s, count_c1 M hs.1 hs.2.1 hs.2.2.1 hs.2.2.2, Option.bind_some, isText_0 hx, if_true]
      · simp only [fX8_add_s, count_c0 M hs, Option.bind_some, isText_0 hx, if_true]
    · have t0 : fX9_isText x M = some 0 := isText_0 hx M
      simp only [fX9_add_s, t0, Option.bind_some, if_true]
