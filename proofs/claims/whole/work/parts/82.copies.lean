/-! THE COPIES: a chain through the row, places taken out of it from the last one on -/
section CHAIN
variable {n : Nat} {T tx st en SA rk : Nat → Nat}
def Ab (M : xM) (n : Nat) (T SA : Nat → Nat) (c : Nat) : Prop := ∀ i, i < n → SA i < c → (M 29 i = -1 ∧ ∀ j, j < i → ¬ SA j < c) ∨ ∃ j, j < i ∧ SA j < c ∧ M 29 i = nI j ∧ M 31 i = nI (lcx n T (SA i) (SA j)) ∧ ∀ k, j < k → k < i → ¬ SA k < c
def Be (M : xM) (n : Nat) (SA : Nat → Nat) (c : Nat) : Prop := ∀ i, i < n → SA i < c → (M 30 i = -1 ∧ ∀ j, i < j → j < n → ¬ SA j < c) ∨ ∃ j, i < j ∧ j < n ∧ SA j < c ∧ M 30 i = nI j ∧ ∀ k, i < k → k < j → ¬ SA k < c
/-- what the row's arrays hold -/
def RW (M : xM) (n : Nat) (T tx st en SA rk : Nat → Nat) : Prop := LTc M n T tx st en ∧ (∀ i, i < n → M 10 i = nI (SA i)) ∧ (∀ p, p < n → M 11 p = nI (rk p)) ∧ ∀ i, i < n → M 12 i = nI (bes n T SA i)
theorem RW.fr {M M2 : xM} {ks : List Nat} (h : RW M n T tx st en SA rk) (hF : Fr ks M M2) (h4 : 4 ∉ ks) (h5 : 5 ∉ ks) (h6 : 6 ∉ ks) (h7 : 7 ∉ ks) (h8 : 8 ∉ ks) (h10 : 10 ∉ ks) (h11 : 11 ∉ ks) (h12 : 12 ∉ ks) : RW M2 n T tx st en SA rk := by
  refine ⟨h.1.of (by rw [hF 4 h4]) (hF 5 h5) (hF 6 h6) (hF 7 h7) (hF 8 h8), ?_, ?_, ?_⟩
  · rw [hF 10 h10]; exact h.2.1
  · rw [hF 11 h11]; exact h.2.2.1
  · rw [hF 12 h12]; exact h.2.2.2
theorem bes_eq {i : Nat} (h : 0 < i) : bes n T SA i = lcx n T (SA i) (SA (i - 1)) := by unfold bes; rw [if_neg (by omega)]
theorem chain_loop (hw : WFx n T tx st en) (hP : PM n T SA rk) : ∀ (d i fuel : Nat) (M : xM), i + d = n → d < fuel → RW M n T tx st en SA rk → (∀ j, j < i → M 29 j = nI j - 1 ∧ (M 30 j = if j + 1 < n then nI (j + 1) else -1) ∧ M 31 j = nI (bes n T SA j)) →
    ∃ M2, fX0_chainAll_2 fuel (nI i) M = some M2 ∧ (∀ j, j < n → M2 29 j = nI j - 1 ∧ (M2 30 j = if j + 1 < n then nI (j + 1) else -1) ∧ M2 31 j = nI (bes n T SA j)) ∧ Fr [29, 30, 31] M M2 := by
  have hn := hw.1
  intro d
  induction d with
  | zero =>
    intro i fuel M hi hf hR h
    obtain ⟨f, rfl⟩ : ∃ f, fuel = f + 1 := ⟨fuel - 1, by omega⟩
    have h4 := hR.1.1
    exact ⟨M, by simp (disch := omega) only [fX0_chainAll_2_s, h4, nI_le_iff, if_pos, if_true], fun j hj => h j (by omega), Fr.rf⟩
  | succ d ih =>
    intro i fuel M hi hf hR h
    obtain ⟨f, rfl⟩ : ∃ f, fuel = f + 1 := ⟨fuel - 1, by omega⟩
    have h4 := hR.1.1
    obtain ⟨M1, e1⟩ : ∃ M1, M1 = xs1 M 29 i (nI i - 1) := ⟨_, rfl⟩
    obtain ⟨v, hv⟩ : ∃ v : Int32, v = if i + 1 < n then nI (i + 1) else -1 := ⟨_, rfl⟩
    obtain ⟨M2, e2⟩ : ∃ M2, M2 = xs1 M1 30 i v := ⟨_, rfl⟩
    obtain ⟨M3, e3⟩ : ∃ M3, M3 = xs1 M2 31 i (nI (bes n T SA i)) := ⟨_, rfl⟩
    have F : Fr [29, 30, 31] M M3 := by rw [e3, e2, e1]; exact ((Fr.s1 (by decide)).tr (Fr.s1 (by decide))).tr (Fr.s1 (by decide))
    have q4 : M1 4 4 = nI n := by rw [e1, xs1_ne (by decide)]; exact h4
    have q12 : M2 12 i = nI (bes n T SA i) := by rw [e2, xs1_ne (by decide), e1, xs1_ne (by decide)]; exact hR.2.2.2 i (by omega)
    obtain ⟨M4, a1, a2, a3⟩ := ih (i + 1) f M3 (by omega) (by omega) (hR.fr F (by decide) (by decide) (by decide) (by decide) (by decide) (by decide) (by decide) (by decide)) (fun j hj => by
      have g29 : M3 29 j = if j = i then nI i - 1 else M 29 j := by rw [e3, xs1_ne (by decide), e2, xs1_ne (by decide), e1, xs1_cell]
      have g30 : M3 30 j = if j = i then v else M 30 j := by rw [e3, xs1_ne (by decide), e2, xs1_cell, e1, xs1_ne (by decide)]
      have g31 : M3 31 j = if j = i then nI (bes n T SA i) else M 31 j := by rw [e3, xs1_cell, e2, xs1_ne (by decide), e1, xs1_ne (by decide)]
      rw [g29, g30, g31]
      by_cases e : j = i
      · subst e; rw [if_pos rfl, if_pos rfl, if_pos rfl]; exact ⟨rfl, hv, rfl⟩
      · rw [if_neg e, if_neg e, if_neg e]; exact h j (by omega))
    refine ⟨M4, ?_, a2, F.tr a3⟩
    have tail : fX0_chainAll_47 (fX0_chainAll_2 f) (nI i) (nI i) v M1 = some M4 := by
      simp (disch := omega) only [fX0_chainAll_47_s, xin_nI, nI_clamp, if_pos, if_true, xlt_def, ← e2, q12, ← e3, nI_add1, a1]
    by_cases c : i + 1 < n
    · rw [if_pos c] at hv
      rw [hv] at tail
      simp (disch := omega) only [fX0_chainAll_2_s, h4, nI_le_iff, if_neg, if_false, xin_nI, nI_clamp, if_pos, if_true, xlt_def, ← e1, q4, nI_add1, tail]
    · rw [if_neg c] at hv
      rw [hv] at tail
      simp (disch := omega) only [fX0_chainAll_2_s, h4, nI_le_iff, if_neg, if_false, xin_nI, nI_clamp, if_pos, if_true, xlt_def, ← e1, q4, nI_add1, tail]
theorem chain_ok {M : xM} (hw : WFx n T tx st en) (hP : PM n T SA rk) (hR : RW M n T tx st en SA rk) : ∃ M2, fX0_chainAll M = some M2 ∧ Ab M2 n T SA n ∧ Be M2 n SA n ∧ Fr [29, 30, 31] M M2 := by
  have hn := hw.1
  obtain ⟨M2, a1, a2, a3⟩ := chain_loop hw hP n 0 4096 M (by omega) (by omega) hR (fun j hj => by omega)
  refine ⟨M2, by rw [fX0_chainAll_s]; exact a1, fun i hi _ => ?_, fun i hi _ => ?_, a3⟩
  · obtain ⟨b1, b2, b3⟩ := a2 i hi
    by_cases h0 : i = 0
    · left; subst h0; exact ⟨b1, fun j hj => by omega⟩
    · right
      refine ⟨i - 1, by omega, (hP.1 (i - 1) (by omega)).1, ?_, ?_, fun k h1 h2 => by omega⟩
      · rw [b1]
        have := nI_sub1 (i - 1)
        rw [show i - 1 + 1 = i by omega] at this
        exact this
      · rw [b3, bes_eq (by omega)]
  · obtain ⟨b1, b2, b3⟩ := a2 i hi
    by_cases h0 : i + 1 < n
    · right
      rw [if_pos h0] at b2
      exact ⟨i + 1, by omega, h0, (hP.1 (i + 1) h0).1, b2, fun k h1 h2 => by omega⟩
    · left
      rw [if_neg h0] at b2
      exact ⟨b2, fun j h1 h2 => by omega⟩
/-- a greatest COMMON with a place before -/
def isLen (n : Nat) (T : Nat → Nat) (p L : Nat) : Prop := (∀ q, q < p → lcx n T p q ≤ L) ∧ (L = 0 ∨ ∃ q, q < p ∧ lcx n T p q = L)
theorem isLen.one {p L L' : Nat} (h : isLen n T p L) (h' : isLen n T p L') : L = L' := by
  have a : ∀ {A B}, isLen n T p A → isLen n T p B → A ≤ B := by
    intro A B hA hB
    rcases hA.2 with g | ⟨q, g1, g2⟩
    · omega
    · have := hB.1 q g1; omega
  exact Nat.le_antisymm (a h h') (a h' h)
theorem lc_sort3 (hw : WFx n T tx st en) (hP : PM n T SA rk) {a b c : Nat} (h1 : a < b) (h2 : b < c) (hc : c < n) : lcx n T (SA a) (SA c) ≤ lcx n T (SA b) (SA c) ∧ lcx n T (SA a) (SA c) ≤ lcx n T (SA a) (SA b) ∧ (lcx n T (SA a) (SA b) ≤ lcx n T (SA a) (SA c) ∨ lcx n T (SA b) (SA c) ≤ lcx n T (SA a) (SA c)) := by
  have x := (hP.1 a (by omega)).1
  have y := (hP.1 b (by omega)).1
  have z := (hP.1 c hc).1
  have s1 := hP.2.2 a b h1 (by omega)
  have s2 := hP.2.2 b c h2 hc
  refine ⟨hw.mid x y z s1 s2, hw.mid2 x y z s1 s2, ?_⟩
  rcases Nat.lt_or_ge (lcx n T (SA a) (SA b)) (lcx n T (SA b) (SA c)) with g | g
  · left; exact lc_tr (Nat.le_refl _) (by omega)
  · right; exact lc_tr g (Nat.le_refl _)
theorem take_ok {M : xM} (hw : WFx n T tx st en) (hP : PM n T SA rk) (hR : RW M n T tx st en SA rk) {p : Nat} (hp : p < n) (hA : Ab M n T SA (p + 1)) (hB : Be M n SA (p + 1)) :
    ∃ (M2 : xM) (L : Nat), fX0_takeLongest (nI p) M = some M2 ∧ isLen n T p L ∧ (∀ j, M2 27 j = if j = p then nI L else M 27 j) ∧ (∀ j, j ≠ p → M2 26 j = M 26 j) ∧ ((L = 0 ∧ M2 26 p = -1) ∨ ∃ q, q < p ∧ lcx n T p q = L ∧ 0 < L ∧ M2 26 p = nI q) ∧ Fr [26, 27] M M2 := by
  have hn := hw.1
  have hr := hP.2.1 p hp
  have h11 := hR.2.2.1 p hp
  have hai := hA (rk p) hr.1 (by rw [hr.2]; omega)
  have hbi := hB (rk p) hr.1 (by rw [hr.2]; omega)
  -- the two neighbours
  obtain ⟨wa, hwa1, hwa2⟩ : ∃ wa, (∀ q, q < p → rk q < rk p → lcx n T p q ≤ wa) ∧ ((M 29 (rk p) = -1 ∧ wa = 0) ∨ ∃ j, j < rk p ∧ SA j < p ∧ M 29 (rk p) = nI j ∧ M 31 (rk p) = nI wa ∧ lcx n T p (SA j) = wa) := by
    rcases hai with ⟨a1, a2⟩ | ⟨j, a1, a2, a3, a4, a5⟩
    · refine ⟨0, fun q hq hrq => ?_, Or.inl ⟨a1, rfl⟩⟩
      have := a2 (rk q) hrq
      rw [(hP.2.1 q (by omega)).2] at this
      omega
    · have hjp : SA j < p := by
        have : SA j ≠ p := fun e => by have := (hP.1 j (by omega)).2; rw [e] at this; omega
        omega
      rw [hr.2] at a4
      refine ⟨lcx n T p (SA j), fun q hq hrq => ?_, Or.inr ⟨j, a1, hjp, a3, a4, rfl⟩⟩
      have hqn : q < n := by omega
      have hrq2 := hP.2.1 q hqn
      have hle : rk q ≤ j := by
        rcases Nat.lt_or_ge j (rk q) with g | g
        · have := a5 (rk q) g hrq; rw [hrq2.2] at this; omega
        · exact g
      by_cases e : rk q = j
      · rw [← e, hrq2.2]; exact Nat.le_refl _
      · have := (lc_sort3 hw hP (show rk q < j by omega) a1 hr.1).1
        rw [hrq2.2, hr.2, lc_symm n T q p, lc_symm n T (SA j) p] at this
        exact this
  obtain ⟨wb, hwb1, hwb2⟩ : ∃ wb, (∀ q, q < p → rk p < rk q → lcx n T p q ≤ wb) ∧ ((M 30 (rk p) = -1 ∧ wb = 0) ∨ ∃ j, rk p < j ∧ j < n ∧ SA j < p ∧ M 30 (rk p) = nI j ∧ M 31 j = nI wb ∧ lcx n T p (SA j) = wb) := by
    rcases hbi with ⟨a1, a2⟩ | ⟨j, a1, a2, a3, a4, a5⟩
    · refine ⟨0, fun q hq hrq => ?_, Or.inl ⟨a1, rfl⟩⟩
      have := a2 (rk q) hrq (hP.2.1 q (by omega)).1
      rw [(hP.2.1 q (by omega)).2] at this
      omega
    · have hjp : SA j < p := by
        have : SA j ≠ p := fun e => by have := (hP.1 j (by omega)).2; rw [e] at this; omega
        omega
      -- above of j is the rank of p
      have hj31 : M 31 j = nI (lcx n T p (SA j)) := by
        rcases hA j a2 a3 with ⟨b1, b2⟩ | ⟨k, b1, b2, b3, b4, b5⟩
        · have := b2 (rk p) a1; rw [hr.2] at this; omega
        · have hk : k = rk p := by
            rcases Nat.lt_trichotomy k (rk p) with g | g | g
            · have := b5 (rk p) g a1; rw [hr.2] at this; omega
            · exact g
            · have := a5 k g b1; omega
          rw [b4, hk, hr.2, lc_symm]
      refine ⟨lcx n T p (SA j), fun q hq hrq => ?_, Or.inr ⟨j, a1, a2, hjp, a4, hj31, rfl⟩⟩
      have hqn : q < n := by omega
      have hrq2 := hP.2.1 q hqn
      have hle : j ≤ rk q := by
        rcases Nat.lt_or_ge (rk q) j with g | g
        · have := a5 (rk q) hrq g; rw [hrq2.2] at this; omega
        · exact g
      by_cases e : rk q = j
      · rw [← e, hrq2.2]; exact Nat.le_refl _
      · have := (lc_sort3 hw hP a1 (show j < rk q by omega) hrq2.1).2.1
        rw [hrq2.2, hr.2] at this
        exact this
  have hwa8 : wa ≤ 408 := by
    rcases hwa2 with g | ⟨j, _, _, _, _, g⟩
    · omega
    · rw [← g]; exact (hw.lcn hp _).2
  have hwb8 : wb ≤ 408 := by
    rcases hwb2 with g | ⟨j, _, _, _, _, _, g⟩
    · omega
    · rw [← g]; exact (hw.lcn hp _).2
  have hL : isLen n T p (if wa < wb then wb else wa) := by
    refine ⟨fun q hq => ?_, ?_⟩
    · have hne : rk q ≠ rk p := fun e => by have a := (hP.2.1 q (by omega)).2; rw [e, hr.2] at a; omega
      rcases Nat.lt_or_ge (rk q) (rk p) with g | g
      · have := hwa1 q hq g; split <;> omega
      · have := hwb1 q hq (by omega); split <;> omega
    · by_cases c : wa < wb
      · rw [if_pos c]
        rcases hwb2 with g | ⟨j, _, _, g2, _, _, g⟩
        · left; exact g.2
        · right; exact ⟨SA j, g2, g⟩
      · rw [if_neg c]
        rcases hwa2 with g | ⟨j, _, g2, _, _, g⟩
        · left; exact g.2
        · right; exact ⟨SA j, g2, g⟩
  obtain ⟨L, hLe⟩ : ∃ L, L = if wa < wb then wb else wa := ⟨_, rfl⟩
  rw [← hLe] at hL
  obtain ⟨M1, e1⟩ : ∃ M1, M1 = xs1 M 27 p (nI L) := ⟨_, rfl⟩
  have hmax : (if nI wa < nI wb then nI wb else nI wa) = nI L := by
    rw [hLe]
    by_cases c : wa < wb
    · rw [if_pos ((nI_lt_iff (by omega) (by omega)).mpr c), if_pos c]
    · rw [if_neg (fun g => c ((nI_lt_iff (by omega) (by omega)).mp g)), if_neg c]
  have q27 : M1 27 p = nI L := by rw [e1, xs1_self]
  have hL8 : L ≤ 408 := by rw [hLe]; split <;> omega
  have m27 : ∀ (v : Int32) (j : Nat), xs1 M1 26 p v 27 j = if j = p then nI L else M 27 j := by intro v j; rw [xs1_ne (by decide), e1, xs1_cell]
  have m26 : ∀ (v : Int32) (j : Nat), j ≠ p → xs1 M1 26 p v 26 j = M 26 j := by intro v j hj; rw [xs1_cell, if_neg hj, e1, xs1_ne (by decide)]
  have FF : ∀ v : Int32, Fr [26, 27] M (xs1 M1 26 p v) := by intro v; rw [e1]; exact (Fr.s1 (by decide)).tr (Fr.s1 (by decide))
  -- the end of the method
  have fin : ∃ v : Int32, fX0_takeLongest_56 (nI p) (nI (rk p)) (nI wa) (nI wb) M = some (xs1 M1 26 p v) ∧ ((L = 0 ∧ v = -1) ∨ ∃ q, q < p ∧ lcx n T p q = L ∧ 0 < L ∧ v = nI q) := by
    by_cases c0 : L = 0
    · refine ⟨-1, ?_, Or.inl ⟨c0, rfl⟩⟩
      have z : nI L = 0 := by rw [c0]; rfl
      rw [fX0_takeLongest_56_s, hmax]
      simp (disch := omega) only [xin_nI, nI_clamp, if_pos, if_true, xlt_def, ← e1, q27]
    · have z : ¬ nI L = 0 := fun g => c0 ((nI_eq0 (by omega)).mp g)
      by_cases c : wa < wb
      · rcases hwb2 with g | ⟨j, g1, g2, g3, g4, g5, g6⟩
        · omega
        · refine ⟨nI (SA j), ?_, Or.inr ⟨SA j, g3, by rw [g6, hLe, if_pos c], by omega, rfl⟩⟩
          have w1 : M1 30 (rk p) = nI j := by rw [e1, xs1_ne (by decide)]; exact g4
          have w2 : M1 10 j = nI (SA j) := by rw [e1, xs1_ne (by decide)]; exact hR.2.1 j g2
          have w3 : nI wa < nI wb := (nI_lt_iff (by omega) (by omega)).mpr c
          have hLw : L = wb := by rw [hLe, if_pos c]
          have e1' : xs1 M 27 p (nI wb) = M1 := by rw [e1, hLw]
          simp (disch := omega) only [fX0_takeLongest_56_s, xin_nI, nI_clamp, if_pos, if_true, if_false, xlt_def, w3, e1', q27, z, w1, fX0_takeLongest_122_s, w2]
      · rcases hwa2 with g | ⟨j, g1, g2, g3, g4, g5⟩
        · rw [hLe, if_neg c] at c0; omega
        · refine ⟨nI (SA j), ?_, Or.inr ⟨SA j, g2, by rw [g5, hLe, if_neg c], by omega, rfl⟩⟩
          have w1 : M1 29 (rk p) = nI j := by rw [e1, xs1_ne (by decide)]; exact g3
          have w2 : M1 10 j = nI (SA j) := by rw [e1, xs1_ne (by decide)]; exact hR.2.1 j (by omega)
          have w3 : ¬ nI wa < nI wb := fun g => c ((nI_lt_iff (by omega) (by omega)).mp g)
          have hLw : L = wa := by rw [hLe, if_neg c]
          have e1' : xs1 M 27 p (nI wa) = M1 := by rw [e1, hLw]
          simp (disch := omega) only [fX0_takeLongest_56_s, xin_nI, nI_clamp, if_pos, if_true, if_false, xlt_def, w3, e1', q27, z, w1, fX0_takeLongest_122_s, w2]
  obtain ⟨v, f1, f2⟩ := fin
  refine ⟨xs1 M1 26 p v, L, ?_, hL, m27 v, m26 v, ?_, FF v⟩
  · have z0 : (0 : Int32) = nI 0 := rfl
    have zm : ∀ j, j < n → ¬ nI j = -1 := fun j hj => nI_nem1 (by omega)
    have second : fX0_takeLongest_30 (nI p) (nI (rk p)) (nI wa) M = some (xs1 M1 26 p v) := by
      rcases hwb2 with ⟨g1, g2⟩ | ⟨j, g1, g2, g3, g4, g5, g6⟩
      · rw [g2] at f1
        have f1' : fX0_takeLongest_56 (nI p) (nI (rk p)) (nI wa) 0 M = _ := f1
        simp (disch := omega) only [fX0_takeLongest_30_s, xin_nI, nI_clamp, if_pos, if_true, g1, f1']
      · have zj := zm j g2
        simp (disch := omega) only [fX0_takeLongest_30_s, xin_nI, nI_clamp, if_pos, if_true, if_false, g4, zj, g5, f1]
    rcases hwa2 with ⟨g1, g2⟩ | ⟨j, g1, g2, g3, g4, g5⟩
    · rw [g2] at second
      have second' : fX0_takeLongest_30 (nI p) (nI (rk p)) 0 M = _ := second
      simp (disch := omega) only [fX0_takeLongest_s, xin_nI, nI_clamp, if_pos, if_true, h11, g1, second']
    · have zj := zm j (by omega)
      simp (disch := omega) only [fX0_takeLongest_s, xin_nI, nI_clamp, if_pos, if_true, if_false, h11, g3, zj, g4, second]
  · rcases f2 with ⟨g1, g2⟩ | ⟨q, g1, g2, g3, g4⟩
    · left; exact ⟨g1, by rw [xs1_self]; exact g2⟩
    · right; exact ⟨q, g1, g2, g3, by rw [xs1_self]; exact g4⟩
end CHAIN
