section CHAIN2
variable {n : Nat} {T tx st en SA rk : Nat → Nat}
theorem unchain_ok {M : xM} (hw : WFx n T tx st en) (hP : PM n T SA rk) {p : Nat} (hp : p < n) (hA : Ab M n T SA (p + 1)) (hB : Be M n SA (p + 1)) :
    ∃ M2, fX0_unchain (nI (rk p)) M = some M2 ∧ Ab M2 n T SA p ∧ Be M2 n SA p ∧ Fr [29, 30, 31] M M2 := by
  have hn := hw.1
  have hr := hP.2.1 p hp
  have hai := hA (rk p) hr.1 (by rw [hr.2]; omega)
  have hbi := hB (rk p) hr.1 (by rw [hr.2]; omega)
  have hle : ∀ i, i < n → SA i < p + 1 → i ≠ rk p → SA i < p := by
    intro i hi h1 h2
    have : SA i ≠ p := fun e => h2 (by have := (hP.1 i hi).2; rw [e] at this; exact this.symm)
    omega
  have hnr : ∀ i, i < n → SA i < p → i ≠ rk p := fun i hi h e => by rw [e, hr.2] at h; omega
  -- the neighbour above hears of it
  obtain ⟨M1, hM1, run1⟩ : ∃ M1, ((M 29 (rk p) = -1 ∧ M1 = M) ∨ ∃ a, a < rk p ∧ SA a < p + 1 ∧ M 29 (rk p) = nI a ∧ (∀ k, a < k → k < rk p → ¬ SA k < p + 1) ∧ M1 = xs1 M 30 a (M 30 (rk p))) ∧ fX0_unchain (nI (rk p)) M = fX0_unchain_27 (nI (rk p)) M1 := by
    rcases hai with ⟨a1, a2⟩ | ⟨j, a1, a2, a3, a4, a5⟩
    · exact ⟨M, Or.inl ⟨a1, rfl⟩, by simp (disch := omega) only [fX0_unchain_s, xin_nI, nI_clamp, if_pos, if_true, a1]⟩
    · have z : ¬ nI j = -1 := nI_nem1 (by omega)
      exact ⟨_, Or.inr ⟨j, a1, a2, a3, a5, rfl⟩, by simp (disch := omega) only [fX0_unchain_s, xin_nI, nI_clamp, if_pos, if_true, if_false, a3, z, xlt_def]⟩
  have h29 : M1 29 = M 29 := by
    rcases hM1 with ⟨_, e⟩ | ⟨a, _, _, _, _, e⟩
    · rw [e]
    · rw [e, xs1_ne (by decide)]
  have h31 : M1 31 = M 31 := by
    rcases hM1 with ⟨_, e⟩ | ⟨a, _, _, _, _, e⟩
    · rw [e]
    · rw [e, xs1_ne (by decide)]
  have h30 : M1 30 (rk p) = M 30 (rk p) := by
    rcases hM1 with ⟨_, e⟩ | ⟨a, h1, _, _, _, e⟩
    · rw [e]
    · rw [e, xs1_cell, if_neg (by omega)]
  have F1 : Fr [29, 30, 31] M M1 := by
    rcases hM1 with ⟨_, e⟩ | ⟨a, _, _, _, _, e⟩
    · rw [e]; exact Fr.rf
    · rw [e]; exact Fr.s1 (by decide)
  -- below: for those that stay
  have hBe1 : ∀ (N : xM), N 30 = M1 30 → Be N n SA p := by
    intro N hN i hi hs
    rw [hN]
    have hi2 := hnr i hi hs
    rcases hB i hi (by omega) with ⟨b1, b2⟩ | ⟨j, b1, b2, b3, b4, b5⟩
    · left
      refine ⟨?_, fun j h1 h2 h3 => b2 j h1 h2 (by omega)⟩
      rcases hM1 with ⟨_, e⟩ | ⟨a, h1, h2, h3, h4, e⟩
      · rw [e]; exact b1
      · rw [e, xs1_cell]
        by_cases c : i = a
        · subst c
          exfalso
          exact b2 (rk p) h1 hr.1 (by rw [hr.2]; omega)
        · rw [if_neg c]; exact b1
    · by_cases cj : j = rk p
      · -- the one above the place that goes
        subst cj
        have hia : M1 30 i = M 30 (rk p) := by
          rcases hM1 with ⟨h0, e⟩ | ⟨a, h1, h2, h3, h4, e⟩
          · exfalso
            rcases hai with ⟨a1, a2⟩ | ⟨j, a1, a2, a3, a4, a5⟩
            · exact a2 i b1 (by omega)
            · rw [h0] at a3
              exact nI_nem1 (by omega) a3.symm
          · have : i = a := by
              rcases Nat.lt_trichotomy i a with g | g | g
              · exact absurd h2 (b5 a g h1)
              · exact g
              · exact absurd (by omega) (h4 i g b1)
            rw [e, xs1_cell, if_pos this]
        rcases hbi with ⟨c1, c2⟩ | ⟨b, c1, c2, c3, c4, c5⟩
        · left
          refine ⟨by rw [hia]; exact c1, fun k h1 h2 h3 => ?_⟩
          rcases Nat.lt_trichotomy k (rk p) with g | g | g
          · exact b5 k h1 g (by omega)
          · rw [g, hr.2] at h3; omega
          · exact c2 k g h2 (by omega)
        · right
          refine ⟨b, by omega, c2, hle b c2 c3 (by omega), by rw [hia]; exact c4, fun k h1 h2 h3 => ?_⟩
          rcases Nat.lt_trichotomy k (rk p) with g | g | g
          · exact b5 k h1 g (by omega)
          · rw [g, hr.2] at h3; omega
          · exact c5 k g h2 (by omega)
      · right
        refine ⟨j, b1, b2, hle j b2 b3 cj, ?_, fun k h1 h2 h3 => b5 k h1 h2 (by omega)⟩
        rcases hM1 with ⟨_, e⟩ | ⟨a, h1, h2, h3, h4, e⟩
        · rw [e]; exact b4
        · rw [e, xs1_cell]
          by_cases c : i = a
          · subst c
            exfalso
            rcases Nat.lt_trichotomy j (rk p) with g | g | g
            · exact absurd b3 (h4 j b1 g)
            · exact cj g
            · exact b5 (rk p) h1 g (by rw [hr.2]; omega)
          · rw [if_neg c]; exact b4
  rcases hbi with ⟨c1, c2⟩ | ⟨b, c1, c2, c3, c4, c5⟩
  · -- nobody below
    refine ⟨M1, ?_, fun i hi hs => ?_, hBe1 M1 rfl, F1⟩
    · have z : M1 30 (rk p) = -1 := by rw [h30]; exact c1
      rw [run1]
      simp (disch := omega) only [fX0_unchain_27_s, xin_nI, nI_clamp, if_pos, if_true, z]
    · rw [h29, h31]
      have hi2 := hnr i hi hs
      have hilt : i < rk p := by
        rcases Nat.lt_trichotomy i (rk p) with g | g | g
        · exact g
        · exact absurd g hi2
        · exact absurd (by omega) (c2 i g hi)
      rcases hA i hi (by omega) with ⟨b1, b2⟩ | ⟨j, b1, b2, b3, b4, b5⟩
      · left; exact ⟨b1, fun j h1 h2 => b2 j h1 (by omega)⟩
      · right; exact ⟨j, b1, hle j (by omega) b2 (by omega), b3, b4, fun k h1 h2 h3 => b5 k h1 h2 (by omega)⟩
  · -- the neighbour below hears of it
    have hbp := hle b c2 c3 (by omega)
    have hb31 : M 31 b = nI (lcx n T (SA b) p) := by
      rcases hA b c2 c3 with ⟨b1, b2⟩ | ⟨k, b1, b2, b3, b4, b5⟩
      · exact absurd (by rw [hr.2]; omega) (b2 (rk p) c1)
      · have hk : k = rk p := by
          rcases Nat.lt_trichotomy k (rk p) with g | g | g
          · exact absurd (by rw [hr.2]; omega) (b5 (rk p) g c1)
          · exact g
          · exact absurd b2 (c5 k g b1)
        rw [b4, hk, hr.2]
    have q30 : M1 30 (rk p) = nI b := by rw [h30]; exact c4
    have z : ¬ nI b = -1 := nI_nem1 (by omega)
    obtain ⟨M2, e2⟩ : ∃ M2, M2 = xs1 M1 29 b (M1 29 (rk p)) := ⟨_, rfl⟩
    have w30 : M2 30 (rk p) = nI b := by rw [e2, xs1_ne (by decide)]; exact q30
    obtain ⟨M3, e3⟩ : ∃ M3, M3 = xs1 M2 31 b (if M2 31 b < M2 31 (rk p) then M2 31 b else M2 31 (rk p)) := ⟨_, rfl⟩
    have F3 : Fr [29, 30, 31] M1 M3 := by rw [e3, e2]; exact (Fr.s1 (by decide)).tr (Fr.s1 (by decide))
    refine ⟨M3, ?_, fun i hi hs => ?_, hBe1 M3 (by rw [e3, xs1_ne (by decide), e2, xs1_ne (by decide)]), F1.tr F3⟩
    · rw [run1]
      simp (disch := omega) only [fX0_unchain_27_s, xin_nI, nI_clamp, if_pos, if_true, if_false, q30, z, xlt_def, ← e2, w30, ← e3]
    · have g29 : M3 29 i = if i = b then M 29 (rk p) else M 29 i := by rw [e3, xs1_ne (by decide), e2, xs1_cell, h29]
      have g31 : M3 31 i = if i = b then (if M 31 b < M 31 (rk p) then M 31 b else M 31 (rk p)) else M 31 i := by rw [e3, xs1_cell, e2, xs1_ne (by decide), h31]
      have hi2 := hnr i hi hs
      rw [g29, g31]
      by_cases cb : i = b
      · subst cb
        rw [if_pos rfl, if_pos rfl]
        rcases hai with ⟨a1, a2⟩ | ⟨a, a1, a2, a3, a4, a5⟩
        · left
          refine ⟨a1, fun j h1 h2 => ?_⟩
          rcases Nat.lt_trichotomy j (rk p) with g | g | g
          · exact a2 j g (by omega)
          · rw [g, hr.2] at h2; omega
          · exact c5 j g h1 (by omega)
        · right
          refine ⟨a, by omega, hle a (by omega) a2 (by omega), a3, ?_, fun k h1 h2 h3 => ?_⟩
          · have l3 := lc_sort3 hw hP a1 c1 c2
            rw [hr.2] at a4
            have w1 := (hw.lcn (show SA i < n by omega) p).2
            have w2 := (hw.lcn hp (SA a)).2
            rw [hb31, a4]
            rw [hr.2, lc_symm n T (SA a) (SA i), lc_symm n T p (SA i), lc_symm n T (SA a) p] at l3
            by_cases c : lcx n T (SA i) p < lcx n T p (SA a)
            · rw [if_pos ((nI_lt_iff (by omega) (by omega)).mpr c)]
              congr 1
              omega
            · rw [if_neg (fun g => c ((nI_lt_iff (by omega) (by omega)).mp g))]
              congr 1
              omega
          · rcases Nat.lt_trichotomy k (rk p) with g | g | g
            · exact a5 k h1 g (by omega)
            · rw [g, hr.2] at h3; omega
            · exact c5 k g h2 (by omega)
      · rw [if_neg cb, if_neg cb]
        rcases hA i hi (by omega) with ⟨b1, b2⟩ | ⟨j, b1, b2, b3, b4, b5⟩
        · left; exact ⟨b1, fun j h1 h2 => b2 j h1 (by omega)⟩
        · right
          have hj : j ≠ rk p := by
            intro e
            subst e
            rcases Nat.lt_trichotomy i b with g | g | g
            · exact c5 i b1 g (by omega)
            · exact cb g
            · exact b5 b c1 g (by omega)
          exact ⟨j, b1, hle j (by omega) b2 hj, b3, b4, fun k h1 h2 h3 => b5 k h1 h2 (by omega)⟩
/-- all are taken out -/
theorem take_loop (hw : WFx n T tx st en) (hP : PM n T SA rk) : ∀ (k fuel : Nat) (M : xM), k ≤ n → k < fuel → RW M n T tx st en SA rk → Ab M n T SA k → Be M n SA k → (∀ p, k ≤ p → p < n → ∃ L, isLen n T p L ∧ M 27 p = nI L ∧ ((L = 0 ∧ M 26 p = -1) ∨ ∃ q, q < p ∧ lcx n T p q = L ∧ 0 < L ∧ M 26 p = nI q)) →
    ∃ M2, fX0_make_14 fuel (nI k - 1) M = fX0_make_42 M2 ∧ (∀ p, p < n → ∃ L, isLen n T p L ∧ M2 27 p = nI L ∧ ((L = 0 ∧ M2 26 p = -1) ∨ ∃ q, q < p ∧ lcx n T p q = L ∧ 0 < L ∧ M2 26 p = nI q)) ∧ Fr [26, 27, 29, 30, 31] M M2 := by
  have hn := hw.1
  intro k
  induction k with
  | zero =>
    intro fuel M hk hf hR hA hB h
    obtain ⟨f, rfl⟩ : ∃ f, fuel = f + 1 := ⟨fuel - 1, by omega⟩
    exact ⟨M, by simp (disch := omega) only [fX0_make_14_s, nI_dn, if_pos, if_true], fun p hp => h p (by omega) hp, Fr.rf⟩
  | succ k ih =>
    intro fuel M hk hf hR hA hB h
    obtain ⟨f, rfl⟩ : ∃ f, fuel = f + 1 := ⟨fuel - 1, by omega⟩
    obtain ⟨M1, L, a1, a2, a3, a4, a5, a6⟩ := take_ok hw hP hR (show k < n by omega) hA hB
    have hA1 : Ab M1 n T SA (k + 1) := by unfold Ab; rw [a6 29 (by decide), a6 31 (by decide)]; exact hA
    have hB1 : Be M1 n SA (k + 1) := by unfold Be; rw [a6 30 (by decide)]; exact hB
    obtain ⟨M2, b1, b2, b3, b4⟩ := unchain_ok hw hP (show k < n by omega) hA1 hB1
    have F : Fr [26, 27, 29, 30, 31] M M2 := (a6.mono (fun k hk => by simp at hk ⊢; omega)).tr (b4.mono (fun k hk => by simp at hk ⊢; omega))
    have hR2 : RW M2 n T tx st en SA rk := hR.fr F (by decide) (by decide) (by decide) (by decide) (by decide) (by decide) (by decide) (by decide)
    obtain ⟨M3, c1, c2, c3⟩ := ih f M2 (by omega) (by omega) hR2 b2 b3 (fun p hkp hpn => by
      rw [b4 27 (by decide), b4 26 (by decide), a3]
      by_cases e : p = k
      · subst e
        rw [if_pos rfl]
        exact ⟨L, a2, rfl, a5⟩
      · rw [if_neg e, a4 p e]
        exact h p (by omega) hpn)
    refine ⟨M3, ?_, c2, F.tr c3⟩
    have q11 : M1 11 k = nI (rk k) := by rw [a6 11 (by decide)]; exact hR.2.2.1 k (by omega)
    simp (disch := omega) only [fX0_make_14_s, nI_sub1, nI_lt0, if_false, a1, Option.bind_some, xin_nI, nI_clamp, if_pos, if_true, q11, b1, nI_addm1, c1]
/-- THE COPY of a place -/
def isCp (n : Nat) (T : Nat → Nat) (p : Nat) (c : Option Nat) (L : Nat) : Prop := isLen n T p L ∧ ((L = 0 ∧ c = none) ∨ ∃ q, c = some q ∧ q < p ∧ lcx n T p q = L ∧ 0 < L ∧ ∀ q', q' < q → lcx n T p q' < L)
theorem isCp.one {p L L' : Nat} {c c' : Option Nat} (h : isCp n T p c L) (h' : isCp n T p c' L') : c = c' ∧ L = L' := by
  have e := h.1.one h'.1
  subst e
  refine ⟨?_, rfl⟩
  rcases h.2 with ⟨a1, a2⟩ | ⟨q, a1, a2, a3, a4, a5⟩ <;> rcases h'.2 with ⟨b1, b2⟩ | ⟨q', b1, b2, b3, b4, b5⟩
  · rw [a2, b2]
  · omega
  · omega
  · rw [a1, b1]
    rcases Nat.lt_trichotomy q q' with g | g | g
    · have := b5 q g; omega
    · rw [g]
    · have := a5 q' g; omega
theorem least_loop {M : xM} (hw : WFx n T tx st en) {p L : Nat} (hp : p < n) (hL : isLen n T p L) (hL0 : 0 < L) (h27 : M 27 p = nI L) (hcp : ∀ q, q < p → ∃ c Lq, isCp n T q c Lq ∧ M 26 q = enc c ∧ M 27 q = nI Lq) :
    ∀ (d q h fuel : Nat), q ≤ d → q < p → q + h < p → q < fuel → lcx n T p q = L → ∃ r, fX0_leastLike_9 fuel (nI p) (nI q) (nI h) M = some (nI r) ∧ isCp n T p (some r) L := by
  have hn := hw.1
  have hL8 : L ≤ 408 := by
    rcases hL.2 with g | ⟨q, _, g⟩
    · omega
    · rw [← g]; exact (hw.lcn hp q).2
  intro d
  induction d with
  | zero =>
    intro q h fuel hd hqp hh hf hl
    obtain ⟨f, rfl⟩ : ∃ f, fuel = f + 1 := ⟨fuel - 1, by omega⟩
    have hq0 : q = 0 := by omega
    subst hq0
    obtain ⟨c, Lq, g1, g2, g3⟩ := hcp 0 (by omega)
    have hLq : Lq = 0 := by
      rcases g1.1.2 with g | ⟨q, g, _⟩
      · exact g
      · omega
    subst hLq
    refine ⟨0, ?_, hL, Or.inr ⟨0, rfl, by omega, hl, hL0, fun q' h => by omega⟩⟩
    have z : ¬ nI 0 = -1 := by decide
    simp (disch := omega) only [fX0_leastLike_9_s, nI_le_iff, if_neg, if_false, z, xin_nI, nI_clamp, if_pos, if_true, g3, h27, nI_lt_iff]
  | succ d ih =>
    intro q h fuel hd hqp hh hf hl
    obtain ⟨f, rfl⟩ : ∃ f, fuel = f + 1 := ⟨fuel - 1, by omega⟩
    obtain ⟨c, Lq, g1, g2, g3⟩ := hcp q hqp
    have z : ¬ nI q = -1 := nI_nem1 (by omega)
    have hLq8 : Lq ≤ 408 := by
      rcases g1.1.2 with g | ⟨x, _, g⟩
      · omega
      · rw [← g]; exact (hw.lcn (show q < n by omega) x).2
    by_cases c1 : Lq < L
    · refine ⟨q, ?_, hL, Or.inr ⟨q, rfl, hqp, hl, hL0, fun q' h => ?_⟩⟩
      · simp (disch := omega) only [fX0_leastLike_9_s, nI_le_iff, if_neg, if_false, z, xin_nI, nI_clamp, if_pos, if_true, g3, h27, nI_lt_iff]
      · rcases Nat.lt_or_ge (lcx n T p q') L with w | w
        · exact w
        · have h1 := g1.1.1 q' h
          have h2 : L ≤ lcx n T q q' := lc_tr (y := p) (by rw [lc_symm, hl]; exact Nat.le_refl _) w
          omega
    · rcases g1.2 with ⟨b1, b2⟩ | ⟨q2, b1, b2, b3, b4, b5⟩
      · omega
      · have hl2 : lcx n T p q2 = L := by
          have h1 : L ≤ lcx n T p q2 := lc_tr (y := q) (by rw [hl]; exact Nat.le_refl _) (by rw [b3]; omega)
          have h2 := hL.1 q2 (by omega)
          omega
        obtain ⟨r, e1, e2⟩ := ih q2 (h + 1) f (by omega) (by omega) (by omega) (by omega) hl2
        refine ⟨r, ?_, e2⟩
        have g4 : M 26 q = nI q2 := by rw [g2, b1]; rfl
        simp (disch := omega) only [fX0_leastLike_9_s, nI_le_iff, if_neg, if_false, z, xin_nI, nI_clamp, if_pos, if_true, g3, h27, nI_lt_iff, g4, nI_add1, e1]
theorem least_all (hw : WFx n T tx st en) : ∀ (d p fuel : Nat) (M : xM), p + d = n → d < fuel → M 4 4 = nI n → (∀ q, q < p → ∃ c L, isCp n T q c L ∧ M 26 q = enc c ∧ M 27 q = nI L) → (∀ q, p ≤ q → q < n → ∃ L, isLen n T q L ∧ M 27 q = nI L ∧ ((L = 0 ∧ M 26 q = -1) ∨ ∃ x, x < q ∧ lcx n T q x = L ∧ 0 < L ∧ M 26 q = nI x)) →
    ∃ M2, fX0_make_44 fuel (nI p) M = fX0_make_72 M2 ∧ (∀ q, q < n → ∃ c L, isCp n T q c L ∧ M2 26 q = enc c ∧ M2 27 q = nI L) ∧ Fr [26] M M2 := by
  have hn := hw.1
  intro d
  induction d with
  | zero =>
    intro p fuel M hp hf h4 h1 h2
    obtain ⟨f, rfl⟩ : ∃ f, fuel = f + 1 := ⟨fuel - 1, by omega⟩
    exact ⟨M, by simp (disch := omega) only [fX0_make_44_s, h4, nI_le_iff, if_pos, if_true], fun q hq => h1 q (by omega), Fr.rf⟩
  | succ d ih =>
    intro p fuel M hp hf h4 h1 h2
    obtain ⟨f, rfl⟩ : ∃ f, fuel = f + 1 := ⟨fuel - 1, by omega⟩
    obtain ⟨L, a1, a2, a3⟩ := h2 p (Nat.le_refl _) (by omega)
    have hll : ∃ c, fX0_leastLike (nI p) M = some (enc c) ∧ isCp n T p c L := by
      rcases a3 with ⟨b1, b2⟩ | ⟨x, b1, b2, b3, b4⟩
      · refine ⟨none, ?_, a1, Or.inl ⟨b1, rfl⟩⟩
        have e : enc none = -1 := rfl
        rw [e]
        by_cases hp0 : p = 0
        · have z : nI p ≤ 0 := (nI_le0 (by omega)).mpr hp0
          rw [fX0_leastLike_s, if_pos (xin_of (by omega) (by omega)), nI_clamp (by omega), b2]
          show fX0_leastLike_9 (4095 + 1) (nI p) (-1) 0 M = _
          rw [fX0_leastLike_9_s, if_pos z]
        · have z : ¬ nI p ≤ 0 := fun g => hp0 ((nI_le0 (by omega)).mp g)
          rw [fX0_leastLike_s, if_pos (xin_of (by omega) (by omega)), nI_clamp (by omega), b2]
          show fX0_leastLike_9 (4095 + 1) (nI p) (-1) 0 M = _
          rw [fX0_leastLike_9_s, if_neg z, if_pos rfl]
      · obtain ⟨r, e1, e2⟩ := least_loop hw (show p < n by omega) a1 b3 a2 h1 x x 0 4096 (Nat.le_refl _) b1 (by omega) (by omega) b2
        refine ⟨some r, ?_, e2⟩
        rw [fX0_leastLike_s, if_pos (xin_of (by omega) (by omega)), nI_clamp (by omega), b4]
        exact e1
    obtain ⟨c, l1, l2⟩ := hll
    obtain ⟨M2, b1, b2, b3⟩ := ih (p + 1) f (xs1 M 26 p (enc c)) (by omega) (by omega) (by rw [xs1_ne (by decide)]; exact h4) (fun q hq => by
      rw [xs1_cell, xs1_ne (by decide)]
      by_cases e : q = p
      · subst e; rw [if_pos rfl]; exact ⟨c, L, l2, rfl, a2⟩
      · rw [if_neg e]; exact h1 q (by omega)) (fun q hq hqn => by
      rw [xs1_cell, xs1_ne (by decide), if_neg (by omega)]
      exact h2 q (by omega) hqn)
    refine ⟨M2, ?_, b2, (Fr.s1 (by decide)).tr b3⟩
    simp (disch := omega) only [fX0_make_44_s, h4, nI_le_iff, if_neg, if_false, l1, Option.bind_some, xin_nI, nI_clamp, if_pos, if_true, xlt_def, nI_add1, b1]
/-- pieces from a place on to its END -/
def pcf (T cl : Nat → Nat) : Nat → Nat → Nat
  | 0, _ => 0
  | f + 1, p => if T p < 8 then 0 else 1 + pcf T cl f (p + (if 1 < cl p then cl p else 1))
theorem pcf_more {T cl : Nat → Nat} (hw : WFx n T tx st en) (hcl : ∀ p, p < n → p + cl p ≤ en (tx p)) : ∀ (f p : Nat), p < n → en (tx p) - p < f → ∀ g, en (tx p) - p < g → pcf T cl f p = pcf T cl g p := by
  intro f
  induction f with
  | zero => intro p _ h; omega
  | succ f ih =>
    intro p hp hf g hg
    obtain ⟨g, rfl⟩ : ∃ g', g = g' + 1 := ⟨g - 1, by omega⟩
    simp only [pcf]
    by_cases h : T p < 8
    · rw [if_pos h, if_pos h]
    · rw [if_neg h, if_neg h]
      have a := hw.2.1 p hp
      have hpe : p < en (tx p) := by
        by_cases e : p = en (tx p)
        · rw [← e] at a; omega
        · omega
      have hc := hcl p hp
      have hstep : p + (if 1 < cl p then cl p else 1) ≤ en (tx p) ∧ p < p + (if 1 < cl p then cl p else 1) := by split <;> omega
      generalize p + (if 1 < cl p then cl p else 1) = q at hstep ⊢
      have htx : tx q = tx p := by
        by_cases e : q = en (tx p)
        · rw [e]; exact a.2.2.2.2.2.2
        · exact (hw.2.2.2 p q hp (by omega) (by omega)).2
      rw [ih q (by omega) (by rw [htx]; omega) g (by rw [htx]; omega)]
def pcx (n : Nat) (T cl : Nat → Nat) (p : Nat) : Nat := pcf T cl (n + 1) p
theorem pcx_rec {T cl : Nat → Nat} (hw : WFx n T tx st en) (hcl : ∀ p, p < n → p + cl p ≤ en (tx p)) {p : Nat} (hp : p < n) : pcx n T cl p = if T p < 8 then 0 else 1 + pcx n T cl (p + (if 1 < cl p then cl p else 1)) := by
  have a := hw.2.1 p hp
  unfold pcx
  show (if T p < 8 then 0 else 1 + pcf T cl n (p + (if 1 < cl p then cl p else 1))) = _
  by_cases h : T p < 8
  · rw [if_pos h, if_pos h]
  · rw [if_neg h, if_neg h]
    have hpe : p < en (tx p) := by
      by_cases e : p = en (tx p)
      · rw [← e] at a; omega
      · omega
    have hc := hcl p hp
    have hstep : p + (if 1 < cl p then cl p else 1) ≤ en (tx p) ∧ p < p + (if 1 < cl p then cl p else 1) := by split <;> omega
    generalize p + (if 1 < cl p then cl p else 1) = q at hstep ⊢
    have htx : tx q = tx p := by
      by_cases e : q = en (tx p)
      · rw [e]; exact a.2.2.2.2.2.2
      · exact (hw.2.2.2 p q hp (by omega) (by omega)).2
    rw [pcf_more hw hcl n q (by omega) (by rw [htx]; omega) (n + 1) (by rw [htx]; omega)]
theorem isLen_en (hw : WFx n T tx st en) {p L : Nat} (hp : p < n) (h : isLen n T p L) : p + L ≤ en (tx p) := by
  have a := hw.2.1 p hp
  rcases h.2 with g | ⟨q, _, g⟩
  · omega
  · have := lc_le_self (n := n) (T := T) (p := p) (q := q)
    rw [hw.self hp] at this
    omega
theorem isEnd_ok {M : xM} (hw : WFx n T tx st en) (hL : LTc M n T tx st en) {p : Nat} (hp : p < n) : fX7_isEnd (nI p) M = some (bI (decide (T p < 8))) := by
  have hn := hw.1
  have h5 := (hL.2.1 p hp).1
  have b := (hw.2.1 p hp).1
  have e8 : (8 : Int32) = nI 8 := rfl
  by_cases c : T p < 8
  · simp (disch := omega) only [fX7_isEnd_s, xin_nI, nI_clamp, if_pos, if_true, h5, e8, nI_le_iff, if_neg, if_false, c, decide_true]
    rfl
  · simp (disch := omega) only [fX7_isEnd_s, xin_nI, nI_clamp, if_pos, if_true, h5, e8, nI_le_iff, c, decide_false]
    rfl
theorem pieces_loop (hw : WFx n T tx st en) {cl : Nat → Nat} (hcl : ∀ p, p < n → p + cl p ≤ en (tx p)) : ∀ (k fuel : Nat) (M : xM), k ≤ n → k < fuel → LTc M n T tx st en → (∀ p, p < n → M 27 p = nI (cl p)) → (∀ p, k ≤ p → p < n → M 28 p = nI (pcx n T cl p)) →
    ∃ M2, fX0_countPieces_10 fuel (nI k - 1) M = some M2 ∧ (∀ p, p < n → M2 28 p = nI (pcx n T cl p)) ∧ Fr [28] M M2 := by
  have hn := hw.1
  intro k
  induction k with
  | zero =>
    intro fuel M hk hf hL h27 h
    obtain ⟨f, rfl⟩ : ∃ f, fuel = f + 1 := ⟨fuel - 1, by omega⟩
    exact ⟨M, by simp (disch := omega) only [fX0_countPieces_10_s, nI_dn, if_pos, if_true], fun p hp => h p (by omega) hp, Fr.rf⟩
  | succ k ih =>
    intro fuel M hk hf hL h27 h
    obtain ⟨f, rfl⟩ : ∃ f, fuel = f + 1 := ⟨fuel - 1, by omega⟩
    have hkn : k < n := by omega
    have a := hw.2.1 k hkn
    have hc := hcl k hkn
    have hr := pcx_rec hw hcl hkn
    have h27k := h27 k hkn
    have h4 := hL.1
    have hE := isEnd_ok hw hL hkn
    obtain ⟨M2, b1, b2, b3⟩ := ih f (xs1 M 28 k (nI (pcx n T cl k))) (by omega) (by omega) (hL.of (by rw [xs1_ne (by decide)]) (xs1_ne (by decide)) (xs1_ne (by decide)) (xs1_ne (by decide)) (xs1_ne (by decide))) (fun p hp => by rw [xs1_ne (by decide)]; exact h27 p hp) (fun p hp hpn => by
      rw [xs1_cell]
      by_cases e : p = k
      · subst e; rw [if_pos rfl]
      · rw [if_neg e]; exact h p (by omega) hpn)
    refine ⟨M2, ?_, b2, (Fr.s1 (by decide)).tr b3⟩
    have tail : fX0_countPieces_66 (fX0_countPieces_10 f) (nI k) (nI k) (nI (pcx n T cl k)) M = some M2 := by
      simp (disch := omega) only [fX0_countPieces_66_s, xin_nI, nI_clamp, if_pos, if_true, xlt_def, nI_addm1, b1]
    have emax : (if (1 : Int32) < nI (cl k) then nI (cl k) else 1) = nI (if 1 < cl k then cl k else 1) := by
      have e1 : (1 : Int32) = nI 1 := rfl
      by_cases c : 1 < cl k
      · rw [e1, if_pos ((nI_lt_iff (by omega) (by omega)).mpr c), if_pos c]
      · rw [e1, if_neg (fun g => c ((nI_lt_iff (by omega) (by omega)).mp g)), if_neg c]
    by_cases c8 : T k < 8
    · rw [if_pos c8] at hr
      rw [hr] at tail
      have tail' : fX0_countPieces_66 (fX0_countPieces_10 f) (nI k) (nI k) 0 M = some M2 := tail
      have z : ¬ bI true = 0 := by decide
      rw [fX0_countPieces_10_s, nI_sub1, if_neg (nI_pos (by omega)), if_pos (xin_of (by omega) (by omega)), nI_clamp (by omega), h27k, emax, xlt_def, hE]
      simp only [c8, decide_true, Option.bind_some, z, if_false, fX0_countPieces_54_s, tail']
    · rw [if_neg c8] at hr
      have hpe : k < en (tx k) := by
        by_cases e : k = en (tx k)
        · rw [← e] at a; omega
        · omega
      have hstep : k + (if 1 < cl k then cl k else 1) ≤ en (tx k) ∧ k < k + (if 1 < cl k then cl k else 1) := by split <;> omega
      have h28 := h (k + (if 1 < cl k then cl k else 1)) (by omega) (by omega)
      have e1 : (1 : Int32) + nI (pcx n T cl (k + (if 1 < cl k then cl k else 1))) = nI (pcx n T cl k) := by rw [hr]; exact nI_plus 1 _
      have z : bI false = 0 := rfl
      rw [fX0_countPieces_10_s, nI_sub1, if_neg (nI_pos (by omega)), if_pos (xin_of (by omega) (by omega)), nI_clamp (by omega), h27k, emax, xlt_def, hE]
      simp (disch := omega) only [c8, decide_false, Option.bind_some, z, if_true, h4, nI_plus, nI_lt_iff, if_pos, xin_nI, nI_clamp, h28, e1, tail]
/-- THE COPIES are made -/
theorem copies_ok {M : xM} (hw : WFx n T tx st en) (hP : PM n T SA rk) (hR : RW M n T tx st en SA rk) : ∃ (M2 : xM) (cp : Nat → Option Nat) (cl : Nat → Nat), fX0_make M = some M2 ∧ (∀ p, p < n → isCp n T p (cp p) (cl p) ∧ M2 26 p = enc (cp p) ∧ M2 27 p = nI (cl p) ∧ M2 28 p = nI (pcx n T cl p)) ∧ Fr [26, 27, 28, 29, 30, 31] M M2 := by
  have hn := hw.1
  obtain ⟨M1, a1, a2, a3, a4⟩ := chain_ok hw hP hR
  have hR1 := hR.fr a4 (by decide) (by decide) (by decide) (by decide) (by decide) (by decide) (by decide) (by decide)
  obtain ⟨M2, b1, b2, b3⟩ := take_loop hw hP n 4096 M1 (Nat.le_refl _) (by omega) hR1 a2 a3 (fun p h1 h2 => by omega)
  have hR2 := hR1.fr b3 (by decide) (by decide) (by decide) (by decide) (by decide) (by decide) (by decide) (by decide)
  obtain ⟨M3, c1, c2, c3⟩ := least_all hw n 0 4096 M2 (by omega) (by omega) hR2.1.1 (fun q hq => by omega) (fun q _ hq => b2 q hq)
  have hR3 := hR2.fr c3 (by decide) (by decide) (by decide) (by decide) (by decide) (by decide) (by decide) (by decide)
  have hex : ∀ q, ∃ (c : Option Nat) (L : Nat), q < n → isCp n T q c L ∧ M3 26 q = enc c ∧ M3 27 q = nI L := by
    intro q
    by_cases hq : q < n
    · obtain ⟨c, L, h⟩ := c2 q hq; exact ⟨c, L, fun _ => h⟩
    · exact ⟨none, 0, fun g => absurd g hq⟩
  obtain ⟨cp, cl, hcp⟩ : ∃ (cp : Nat → Option Nat) (cl : Nat → Nat), ∀ q, q < n → isCp n T q (cp q) (cl q) ∧ M3 26 q = enc (cp q) ∧ M3 27 q = nI (cl q) := ⟨fun q => Classical.choose (hex q), fun q => Classical.choose (Classical.choose_spec (hex q)), fun q => Classical.choose_spec (Classical.choose_spec (hex q))⟩
  obtain ⟨M4, d1, d2, d3⟩ := pieces_loop hw (cl := cl) (fun p hp => isLen_en hw hp (hcp p hp).1.1) n 4096 M3 (Nat.le_refl _) (by omega) hR3.1 (fun p hp => (hcp p hp).2.2) (fun p h1 h2 => by omega)
  refine ⟨M4, cp, cl, ?_, fun p hp => ⟨(hcp p hp).1, by rw [d3 26 (by decide)]; exact (hcp p hp).2.1, by rw [d3 27 (by decide)]; exact (hcp p hp).2.2, d2 p hp⟩, ?_⟩
  · have q1 : M1 4 4 = nI n := hR1.1.1
    have q3 : M3 4 4 = nI n := hR3.1.1
    have c1' : fX0_make_44 4096 0 M2 = fX0_make_72 M3 := c1
    rw [fX0_make_s, a1, Option.bind_some, q1, b1, fX0_make_42_s, c1', fX0_make_72_s, fX0_countPieces_s, q3, d1]
    rfl
  · exact (((a4.mono (fun k hk => by simp at hk ⊢; omega)).tr (b3.mono (fun k hk => by simp at hk ⊢; omega))).tr (c3.mono (fun k hk => by simp at hk ⊢; omega))).tr (d3.mono (fun k hk => by simp at hk ⊢; omega))
end CHAIN2
