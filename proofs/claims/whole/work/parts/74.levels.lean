/-! NAMES AND LEVELS over the memory -/
theorem names_loop {l b n K : Nat} {T : Nat → Nat} {S : Nat → Bool} {o : Nat → Option Nat} {nm0 : Nat → Nat} (hSd : ∀ p, p < n → (S p = true ↔ slt n T p (p + 1))) (ho : ∀ j, j < n → ∃ q, q < n ∧ o j = some q) (hinj : ∀ j j' q, j < n → j' < n → o j = some q → o j' = some q → j = j')
    (hNI : ∀ k, k ≤ n → NI n T S o k (nmx n S o (smx n T S) nm0 k)) :
    ∀ (d i fuel : Nat) (M : xM), i + d = n → d < fuel → Lv M l b n K T → LvS M b n S → (∀ j, j < n → M 14 j = enc (o j)) → (∀ j p, j < i → o j = some p → LMx n S p = true → M 22 p = nI ((nmx n S o (smx n T S) nm0 i).2.2 p)) →
      ∃ M2, fX4_namePieces_7 fuel (nI l) (nI (nmx n S o (smx n T S) nm0 i).1) (enc (nmx n S o (smx n T S) nm0 i).2.1) (nI i) M = some (nI (nmx n S o (smx n T S) nm0 n).1, M2) ∧ (∀ j p, j < n → o j = some p → LMx n S p = true → M2 22 p = nI ((nmx n S o (smx n T S) nm0 n).2.2 p)) ∧ Fr [22] M M2 := by
  intro d
  induction d with
  | zero =>
    intro i fuel M hi hf hL hS h14 h22
    obtain ⟨f, rfl⟩ : ∃ f, fuel = f + 1 := ⟨fuel - 1, by omega⟩
    obtain ⟨hl, hb, hn, hK, h1, h2, h3, hT⟩ := id hL
    have hin : i = n := by omega
    subst hin
    exact ⟨M, by simp (disch := omega) only [fX4_namePieces_7_s, xin_nI, nI_clamp, hn, nI_le_iff, if_pos, if_true], h22, Fr.rf⟩
  | succ d ih =>
    intro i fuel M hi hf hL hS h14 h22
    obtain ⟨f, rfl⟩ : ∃ f, fuel = f + 1 := ⟨fuel - 1, by omega⟩
    obtain ⟨hl, hb, hn, hK, h1, h2, h3, hT⟩ := id hL
    obtain ⟨p, hp, hop⟩ := ho i (by omega)
    have hM : M 14 i = nI p := by rw [h14 i (by omega), hop]; rfl
    have ht := turn_ok hL hS hp
    have hne : ∀ j q, j < i → o j = some q → q ≠ p := by
      intro j q hj hq e
      subst e
      have := hinj j i q (by omega) (by omega) hq hop
      omega
    cases hz : LMx n S p with
    | false =>
      have hst : nmx n S o (smx n T S) nm0 (i + 1) = nmx n S o (smx n T S) nm0 i := by
        simp only [nmx]; rw [hop]; simp [hz]
      obtain ⟨M2, a1, a2, a3⟩ := ih (i + 1) f M (by omega) (by omega) hL hS h14 (fun j q hj hq hLq => by
        rw [hst]
        by_cases e : j = i
        · subst e; rw [hop] at hq; have := Option.some.inj hq; subst this; rw [hz] at hLq; exact absurd hLq (by simp)
        · exact h22 j q (by omega) hq hLq)
      rw [hst] at a1
      refine ⟨M2, ?_, a2, a3⟩
      rw [hz] at ht
      have e1 : bI false = 0 := rfl
      simp (disch := omega) only [fX4_namePieces_7_s, xin_nI, nI_clamp, hn, nI_le_iff, if_pos, if_neg, if_true, if_false, hM, ht, e1, Option.bind_some, fX4_namePieces_69_s, nI_add1, a1]
    | true =>
      rw [hz] at ht
      have e1 : ¬ bI true = 0 := by decide
      have hI := hNI i (by omega)
      have hst0 : ∃ nd, nmx n S o (smx n T S) nm0 (i + 1) = (nd, some p, fup (nmx n S o (smx n T S) nm0 i).2.2 p (nd - 1)) ∧ nd = (if (match (nmx n S o (smx n T S) nm0 i).2.1 with | none => true | some lx => !smx n T S lx p) then (nmx n S o (smx n T S) nm0 i).1 + 1 else (nmx n S o (smx n T S) nm0 i).1) := by
        refine ⟨_, ?_, rfl⟩
        simp only [nmx]
        rw [hop]
        simp only [hz, if_true]
        all_goals (cases (nmx n S o (smx n T S) nm0 i).2.1 <;> rfl)
      obtain ⟨nd, hst, hnd⟩ := hst0
      generalize hG : nmx n S o (smx n T S) nm0 i = st at hI hst hnd h22 ⊢
      obtain ⟨nd0, la, nm⟩ := st
      -- behind the name
      have tail : 0 < nd → ∃ M2, fX4_namePieces_56 (fX4_namePieces_7 f) (nI l) (nI nd) (nI i) (nI p) M = some (nI (nmx n S o (smx n T S) nm0 n).1, M2) ∧ (∀ j q, j < n → o j = some q → LMx n S q = true → M2 22 q = nI ((nmx n S o (smx n T S) nm0 n).2.2 q)) ∧ Fr [22] M M2 := by
        intro hpos
        obtain ⟨M2, a1, a2, a3⟩ := ih (i + 1) f (xs1 M 22 p (nI (nd - 1))) (by omega) (by omega) (hL.of (xs1_ne (by decide)) (xs1_ne (by decide)) (xs1_ne (by decide)) (xs1_ne (by decide))) (hS.of (xs1_ne (by decide))) (fun j hj => by rw [xs1_ne (by decide)]; exact h14 j hj) (fun j q hj hq hLq => by
          rw [hst, xs1_cell]
          show _ = nI (fup nm p (nd - 1) q)
          by_cases e : q = p
          · subst e; rw [if_pos rfl, fup_self]
          · rw [if_neg e, fup_ne _ _ e]
            by_cases e2 : j = i
            · subst e2; rw [hop] at hq; exact absurd (Option.some.inj hq).symm e
            · exact h22 j q (by omega) hq hLq)
        rw [hst] at a1
        have a1 : fX4_namePieces_7 f (nI l) (nI nd) (nI p) (nI (i + 1)) (xs1 M 22 p (nI (nd - 1))) = _ := a1
        refine ⟨M2, ?_, a2, (Fr.s1 (by decide)).tr a3⟩
        have e2 : nI nd - 1 = nI (nd - 1) := by
          have := nI_sub1 (nd - 1)
          rw [show nd - 1 + 1 = nd by omega] at this
          exact this
        simp (disch := omega) only [fX4_namePieces_56_s, xin_nI, nI_clamp, e2, xlt_def, if_pos, if_true, fX4_namePieces_69_s, nI_add1, a1]
      cases la with
      | none =>
        have hnd1 : nd = nd0 + 1 := hnd
        obtain ⟨M2, a1, a2, a3⟩ := tail (by omega)
        refine ⟨M2, ?_, a2, a3⟩
        have e3 : enc none = -1 := rfl
        rw [hnd1] at a1
        show fX4_namePieces_7 (f + 1) (nI l) (nI nd0) (enc none) (nI i) M = _
        simp (disch := omega) only [fX4_namePieces_7_s, xin_nI, nI_clamp, hn, nI_le_iff, if_pos, if_neg, if_true, if_false, hM, ht, e1, e3, Option.bind_some, fX4_namePieces_53_s, nI_add1, a1]
      | some lx =>
        obtain ⟨jl, b1, b2, b3, b4, b5⟩ := hI.2.2.2.1
        have b4 : nm lx + 1 = nd0 := b4
        have hlx := (LMx_iff.mp b3).2.1
        have hsm := same_ok hL hS hSd b3 hz
        have e3 : enc (some lx) = nI lx := rfl
        have e4 : ¬ nI lx = -1 := nI_nem1 (by omega)
        show ∃ M2, fX4_namePieces_7 (f + 1) (nI l) (nI nd0) (enc (some lx)) (nI i) M = _ ∧ _
        cases hs : smx n T S lx p with
        | true =>
          have hnd1 : nd = nd0 := by rw [hnd]; simp [hs]
          obtain ⟨M2, a1, a2, a3⟩ := tail (by omega)
          refine ⟨M2, ?_, a2, a3⟩
          rw [hs] at hsm
          rw [hnd1] at a1
          simp (disch := omega) only [fX4_namePieces_7_s, xin_nI, nI_clamp, hn, nI_le_iff, if_pos, if_neg, if_true, if_false, hM, ht, e1, e3, e4, Option.bind_some, hsm, a1]
        | false =>
          have hnd1 : nd = nd0 + 1 := by rw [hnd]; simp [hs]
          obtain ⟨M2, a1, a2, a3⟩ := tail (by omega)
          refine ⟨M2, ?_, a2, a3⟩
          rw [hs] at hsm
          rw [hnd1] at a1
          have e5 : bI false = 0 := rfl
          simp (disch := omega) only [fX4_namePieces_7_s, xin_nI, nI_clamp, hn, nI_le_iff, if_pos, if_neg, if_true, if_false, hM, ht, e1, e3, e4, e5, Option.bind_some, hsm, fX4_namePieces_53_s, nI_add1, a1]
/-- as many values as places: each once -/
theorem pigeon {m : Nat} {g : Nat → Nat} (hg : ∀ v, v < m → g v < m) (hi : ∀ v v', v < m → v' < m → g v = g v' → v = v') : ∀ x, x < m → ∃ v, v < m ∧ g v = x := by
  have key : ∀ j, j ≤ m → cnt (fun x => @decide (∃ v, v < j ∧ g v = x) (Classical.propDecidable _)) m = j := by
    intro j
    induction j with
    | zero =>
      intro _
      apply cnt_false
      intro i _
      exact @decide_eq_false _ (Classical.propDecidable _) (fun ⟨v, h, _⟩ => absurd h (Nat.not_lt_zero v))
    | succ j ih =>
      intro hj
      rw [cnt_add (P := fun x => @decide (∃ v, v < j ∧ g v = x) (Classical.propDecidable _)) m (g j) (hg j (by omega)) ?_ ?_ ?_, ih (by omega)]
      · exact @decide_eq_false _ (Classical.propDecidable _) (fun ⟨v, h, e⟩ => by have := hi v j (by omega) (by omega) e; omega)
      · exact @decide_eq_true _ (Classical.propDecidable _) ⟨j, by omega, rfl⟩
      · intro i hi2 hne
        have : (∃ v, v < j ∧ g v = i) ↔ (∃ v, v < j + 1 ∧ g v = i) := by
          constructor
          · rintro ⟨v, a, b⟩; exact ⟨v, by omega, b⟩
          · rintro ⟨v, a, b⟩
            refine ⟨v, ?_, b⟩
            by_cases e : v = j
            · subst e; exact absurd b.symm hne
            · omega
        by_cases h : ∃ v, v < j ∧ g v = i
        · rw [@decide_eq_true _ (Classical.propDecidable _) h, @decide_eq_true _ (Classical.propDecidable _) (this.mp h)]
        · rw [@decide_eq_false _ (Classical.propDecidable _) h, @decide_eq_false _ (Classical.propDecidable _) (fun q => h (this.mpr q))]
  intro x hx
  by_cases h : ∃ v, v < m ∧ g v = x
  · exact h
  · exfalso
    have h1 := key m (Nat.le_refl _)
    have h2 := cnt_lt (P := fun x => @decide (∃ v, v < m ∧ g v = x) (Classical.propDecidable _)) (Q := fun _ => true) m x (fun _ _ _ => rfl) hx (@decide_eq_false _ (Classical.propDecidable _) h) rfl
    rw [cnt_true m (fun _ _ => rfl)] at h2
    omega
theorem surj_inj {m : Nat} {f : Nat → Nat} (h : ∀ v, v < m → ∃ k, k < m ∧ f k = v) : ∀ k k', k < m → k' < m → f k = f k' → k = k' := by
  have hex : ∀ v, ∃ k, v < m → k < m ∧ f k = v := by
    intro v
    by_cases hv : v < m
    · obtain ⟨k, hk⟩ := h v hv; exact ⟨k, fun _ => hk⟩
    · exact ⟨0, fun g => absurd g hv⟩
  obtain ⟨g, hg⟩ : ∃ g : Nat → Nat, ∀ v, v < m → g v < m ∧ f (g v) = v := ⟨fun v => Classical.choose (hex v), fun v => Classical.choose_spec (hex v)⟩
  have hp := pigeon (g := g) (fun v hv => (hg v hv).1) (fun v v' hv hv' e => by have a := (hg v hv).2; have b := (hg v' hv').2; rw [e] at a; omega)
  intro k k' hk hk' e
  obtain ⟨v, a1, a2⟩ := hp k hk
  obtain ⟨v', b1, b2⟩ := hp k' hk'
  have c1 := (hg v a1).2
  have c2 := (hg v' b1).2
  rw [a2] at c1
  rw [b2] at c2
  have : v = v' := by omega
  rw [← a2, ← b2, this]
theorem letters_loop {y m : Nat} {tn nm : Nat → Nat} (hy : y + m ≤ 816) (hm : m ≤ 408) : ∀ (d k fuel : Nat) (M : xM), k + d = m → d < fuel → (∀ i, i < m → M 17 (y + i) = nI (tn i) ∧ tn i < 408 ∧ M 22 (tn i) = nI (nm (tn i))) → (∀ i, i < k → M 15 (y + i) = nI (nm (tn i))) →
    ∃ M2, fX4_makeLevelBelow_80 fuel (nI y) (nI m) (nI k) M = some M2 ∧ (∀ i, i < m → M2 15 (y + i) = nI (nm (tn i))) ∧ Fr [15] M M2 ∧ (∀ j, j < y → M2 15 j = M 15 j) := by
  intro d
  induction d with
  | zero =>
    intro k fuel M hk hf h17 h15
    obtain ⟨f, rfl⟩ : ∃ f, fuel = f + 1 := ⟨fuel - 1, by omega⟩
    exact ⟨M, by simp (disch := omega) only [fX4_makeLevelBelow_80_s, nI_le_iff, if_pos, if_true], fun i hi => h15 i (by omega), Fr.rf, fun _ _ => rfl⟩
  | succ d ih =>
    intro k fuel M hk hf h17 h15
    obtain ⟨f, rfl⟩ : ∃ f, fuel = f + 1 := ⟨fuel - 1, by omega⟩
    obtain ⟨g1, g2, g3⟩ := h17 k (by omega)
    obtain ⟨M2, a1, a2, a3, a4⟩ := ih (k + 1) f (xs1 M 15 (y + k) (nI (nm (tn k)))) (by omega) (by omega) (fun i hi => by rw [xs1_ne (by decide), xs1_ne (by decide)]; exact h17 i hi) (fun i hi => by
      rw [xs1_cell]
      by_cases e : i = k
      · subst e; rw [if_pos rfl]
      · rw [if_neg (by omega)]; exact h15 i (by omega))
    refine ⟨M2, ?_, a2, (Fr.s1 (by decide)).tr a3, fun j hj => by rw [a4 j hj, xs1_cell, if_neg (by omega)]⟩
    simp (disch := omega) only [fX4_makeLevelBelow_80_s, nI_le_iff, if_pos, if_neg, if_true, if_false, nI_plus, xin_nI, nI_clamp, g1, g3, xlt_def, nI_add1, a1]
/-- what a level and the one below it have to do with each other -/
def Red (n m : Nat) (T T1 : Nat → Nat) (K1 : Nat) (tn : Nat → Nat) : Prop := turnsx n (Sx n T) m tn ∧ (∃ nm : Nat → Nat, (∀ k, k < m → T1 k = nm (tn k)) ∧ (∀ p q, LMx n (Sx n T) p = true → LMx n (Sx n T) q = true → nm p < nm q → slt n T p q) ∧ (∀ p q, LMx n (Sx n T) p = true → LMx n (Sx n T) q = true → p ≠ q → nm p = nm q → samep n T (Sx n T) p q)) ∧ ∀ v, v < K1 → ∃ k, k < m ∧ T1 k = v
theorem below_ok {M : xM} {l b n K : Nat} {T : Nat → Nat} (hL : Lv M l b n K T) (hl1 : l + 1 < 11) (hbn : b + 2 * n ≤ 816) :
    ∃ (m K1 : Nat) (T1 tn : Nat → Nat) (M2 : xM), fX4_makeLevelBelow (nI l) M = some M2 ∧ Lv M2 l b n K T ∧ LvS M2 b n (Sx n T) ∧ Red n m T T1 K1 tn ∧ (∀ k, k < m → M2 17 (b + n + k) = nI (tn k)) ∧ Lv M2 (l + 1) (b + n) m K1 T1 ∧ 2 * m ≤ n ∧
      Fr [14, 15, 16, 17, 18, 19, 20, 21, 22, 23, 24] M M2 ∧ (∀ j, j < b + n → M2 15 j = M 15 j) ∧ (∀ j, j < b → M2 16 j = M 16 j) ∧ (∀ j, j < b + n → M2 17 j = M 17 j) ∧ (∀ i, i ≠ l + 1 → M2 18 i = M 18 i ∧ M2 19 i = M 19 i ∧ M2 20 i = M 20 i) := by
  obtain ⟨hl, hb, hn, hK, h1, h2, h3, hT⟩ := id hL
  have hSd : ∀ p, p < n → (Sx n T p = true ↔ slt n T p (p + 1)) := fun p _ => Sx_iff p
  have hTK : ∀ p, p < n → T p < K := fun p hp => (hT p hp).2
  obtain ⟨M1, a1, a2, a3, a4⟩ := rises_ok hL
  have hL1 := hL.fr a3 (by decide) (by decide) (by decide) (by decide)
  obtain ⟨m, tn, M2, b1, b2, b3, b4, b5⟩ := turns_ok (y := b + n) hL1 a2 hSd (by omega) (by omega)
  have hhalf := b2.half hSd
  have hL2 := hL1.fr b4 (by decide) (by decide) (by decide) (by decide)
  have hS2 : LvS M2 b n (Sx n T) := a2.of (b4 16 (by decide))
  -- the seeds are copied
  have hF3 : Fr [21] M2 (xcp M2 17 21 (nI (b + n)) 0 (nI m)) := Fr.st (by decide)
  have hL3 := hL2.fr hF3 (by decide) (by decide) (by decide) (by decide)
  have hS3 := hS2.of (hF3 16 (by decide))
  have hs3 : ∀ i, i < m → xcp M2 17 21 (nI (b + n)) 0 (nI m) 21 i = nI (tn i) := by
    intro i hi
    have q0 : (0 : Int32).toNatClampNeg = 0 := by decide
    rw [xcp_cell, nI_clamp (by omega), nI_clamp (by omega), q0, if_pos (by omega), show b + n + (i - 0) = b + n + i by omega]
    exact b3 i hi
  obtain ⟨M4, d1, d2, d3⟩ := induce_ok hL3 hS3 hSd b2.seeds (by omega) hs3
  have hL4 := hL3.fr d3 (by decide) (by decide) (by decide) (by decide)
  have hS4 := hS3.of (d3 16 (by decide))
  obtain ⟨p1, p2, p3, p4⟩ := ind_pc hSd hTK b2.seeds
  -- the level below: where it stands, how many
  obtain ⟨M5, hM5⟩ : ∃ M5, M5 = xs1 M4 18 (l + 1) (nI (b + n)) := ⟨_, rfl⟩
  obtain ⟨M6, hM6⟩ : ∃ M6, M6 = xs1 M5 19 (l + 1) (nI m) := ⟨_, rfl⟩
  have hF6 : Fr [18, 19] M4 M6 := by rw [hM6, hM5]; exact (Fr.s1 (by decide)).tr (Fr.s1 (by decide))
  have hL6 : Lv M6 l b n K T := by
    obtain ⟨q1, q2, q3, q4, q5⟩ := hL4
    refine ⟨q1, ?_, ?_, by rw [hF6 20 (by decide)]; exact q4, by rw [hF6 15 (by decide)]; exact q5⟩
    · rw [hM6, xs1_ne (by decide), hM5, xs1_cell, if_neg (by omega)]; exact q2
    · rw [hM6, xs1_cell, if_neg (by omega), hM5, xs1_ne (by decide)]; exact q3
  have hS6 := hS4.of (hF6 16 (by decide))
  have h146 : ∀ j, j < n → M6 14 j = enc (indx n T (Sx n T) m tn j) := fun j hj => by rw [hF6 14 (by decide)]; exact d2 j hj
  have hNI : ∀ k, k ≤ n → NI n T (Sx n T) (indx n T (Sx n T) m tn) k (nmx n (Sx n T) (indx n T (Sx n T) m tn) (smx n T (Sx n T)) (fun _ => 0) k) := NI.all hSd (fun p q _ _ => smx_iff p q) p2 p3
  obtain ⟨M7, e1, e2, e3⟩ := names_loop hSd p1 p2 hNI n 0 4096 M6 (by omega) (by omega) hL6 hS6 h146 (fun j p hj => by omega)
  have hNn := hNI n (Nat.le_refl _)
  generalize nmx n (Sx n T) (indx n T (Sx n T) m tn) (smx n T (Sx n T)) (fun _ => 0) n = st at e1 e2 hNn
  obtain ⟨K1, la, nm⟩ := st
  have e1 : fX4_namePieces_7 4096 (nI l) 0 (-1) 0 M6 = some (nI K1, M7) := e1
  have hslot : ∀ p, LMx n (Sx n T) p = true → ∃ j, j < n ∧ indx n T (Sx n T) m tn j = some p := fun p hp => p4 p (LMx_iff.mp hp).2.1
  have hnmT : ∀ k, k < m → M7 22 (tn k) = nI (nm (tn k)) ∧ nm (tn k) < K1 := by
    intro k hk
    obtain ⟨j, g1, g2⟩ := hslot (tn k) (b2.1 k hk)
    exact ⟨e2 j (tn k) g1 g2 (b2.1 k hk), hNn.2.1 j (tn k) g1 g2 (b2.1 k hk)⟩
  have hsurj : ∀ v, v < K1 → ∃ k, k < m ∧ nm (tn k) = v := by
    intro v hv
    obtain ⟨p, j, g1, g2, g3, g4⟩ := hNn.1 v hv
    obtain ⟨k, hk, e⟩ := b2.2.2 p g3
    exact ⟨k, hk, by rw [e]; exact g4⟩
  have hK1 : K1 ≤ m := by
    -- K1 values out of m places
    rcases Nat.lt_or_ge m K1 with g | g
    · exfalso
      have hinj := surj_inj (m := m) (f := fun k => nm (tn k)) (fun v hv => hsurj v (by omega))
      obtain ⟨k, hk, ek⟩ := hsurj m g
      obtain ⟨v, hv1, hv2⟩ : ∃ v, v < m ∧ v = nm (tn k) := by
        -- k has a value below m by surjectivity of the others
        have hp := pigeon (m := m) (g := fun v => if h : v < m then Classical.choose (hsurj v (by omega)) else 0) (fun v hv => by simp only [hv, dif_pos]; exact (Classical.choose_spec (hsurj v (by omega))).1) (fun v v' hv hv' e => by
          simp only [hv, hv', dif_pos] at e
          have x1 := (Classical.choose_spec (hsurj v (by omega))).2
          have x2 := (Classical.choose_spec (hsurj v' (by omega))).2
          rw [e] at x1
          omega)
        obtain ⟨v, c1, c2⟩ := hp k hk
        simp only [c1, dif_pos] at c2
        have x1 := (Classical.choose_spec (hsurj v (by omega))).2
        rw [c2] at x1
        exact ⟨v, c1, x1.symm⟩
      omega
    · exact g
  obtain ⟨M8, hM8⟩ : ∃ M8, M8 = xs1 M7 20 (l + 1) (nI K1) := ⟨_, rfl⟩
  have h178 : ∀ i, i < m → M8 17 (b + n + i) = nI (tn i) := by
    intro i hi
    rw [hM8, xs1_ne (by decide), e3 17 (by decide), hF6 17 (by decide), d3 17 (by decide), hF3 17 (by decide)]
    exact b3 i hi
  have htn : ∀ i, i < m → tn i < n := fun i hi => (LMx_iff.mp (b2.1 i hi)).2.1
  obtain ⟨M9, f1, f2, f3, f4⟩ := letters_loop (y := b + n) (m := m) (tn := tn) (nm := nm) (by omega) (by omega) m 0 4096 M8 (by omega) (by omega) (fun i hi => ⟨h178 i hi, by have := htn i hi; omega, by rw [hM8, xs1_ne (by decide)]; exact (hnmT i hi).1⟩) (fun i hi => by omega)
  have f1 : fX4_makeLevelBelow_80 4096 (nI (b + n)) (nI m) 0 M8 = some M9 := f1
  -- what was written in all
  have F15 : ∀ j, j < b + n → M9 15 j = M 15 j := by
    intro j hj
    rw [f4 j hj, hM8, xs1_ne (by decide), e3 15 (by decide), hF6 15 (by decide), d3 15 (by decide), hF3 15 (by decide), b4 15 (by decide), a3 15 (by decide)]
  have F16 : M9 16 = M1 16 := by
    rw [f3 16 (by decide), hM8, xs1_ne (by decide), e3 16 (by decide), hF6 16 (by decide), d3 16 (by decide), hF3 16 (by decide), b4 16 (by decide)]
  have F17 : M9 17 = M2 17 := by
    rw [f3 17 (by decide), hM8, xs1_ne (by decide), e3 17 (by decide), hF6 17 (by decide), d3 17 (by decide), hF3 17 (by decide)]
  have F18 : ∀ i, M9 18 i = if i = l + 1 then nI (b + n) else M 18 i := by
    intro i
    rw [f3 18 (by decide), hM8, xs1_ne (by decide), e3 18 (by decide), hM6, xs1_ne (by decide), hM5, xs1_cell, d3 18 (by decide), hF3 18 (by decide), b4 18 (by decide), a3 18 (by decide)]
  have F19 : ∀ i, M9 19 i = if i = l + 1 then nI m else M 19 i := by
    intro i
    rw [f3 19 (by decide), hM8, xs1_ne (by decide), e3 19 (by decide), hM6, xs1_cell, hM5, xs1_ne (by decide), d3 19 (by decide), hF3 19 (by decide), b4 19 (by decide), a3 19 (by decide)]
  have F20 : ∀ i, M9 20 i = if i = l + 1 then nI K1 else M 20 i := by
    intro i
    rw [f3 20 (by decide), hM8, xs1_cell, e3 20 (by decide), hF6 20 (by decide), d3 20 (by decide), hF3 20 (by decide), b4 20 (by decide), a3 20 (by decide)]
  refine ⟨m, K1, fun k => nm (tn k), tn, M9, ?_, ⟨hl, by rw [F18, if_neg (by omega)]; exact hb, by rw [F19, if_neg (by omega)]; exact hn, by rw [F20, if_neg (by omega)]; exact hK, h1, h2, h3, fun p hp => by rw [F15 (b + p) (by omega)]; exact hT p hp⟩, ?_, ⟨b2, ⟨nm, fun k hk => rfl, ?_, ?_⟩, hsurj⟩, fun k hk => by rw [F17]; exact b3 k hk, ⟨hl1, by rw [F18, if_pos rfl], by rw [F19, if_pos rfl], by rw [F20, if_pos rfl], by omega, by omega, by omega, fun p hp => ⟨f2 p hp, (hnmT p hp).2⟩⟩, hhalf, ?_, F15, ?_, ?_, fun i hi => ⟨by rw [F18, if_neg hi], by rw [F19, if_neg hi], by rw [F20, if_neg hi]⟩⟩
  · -- the run
    have w1 := hL1.2.1
    have w2 := hL1.2.2.1
    have ey : (nI l + 1) = nI (l + 1) := nI_add1 l
    have z0 : xcin (nI (b + n)) 0 (nI m) 816 408 := (xcin_nI (b := 0) (by omega) (by omega) (by omega)).mpr ⟨by omega, by omega⟩
    have d1' : fX4_induce (nI l) (nI m) (xcp M2 17 21 (nI (b + n)) 0 (nI m)) = some M4 := d1
    have e1' : fX4_namePieces (nI l) M6 = some (nI K1, M7) := by rw [fX4_namePieces_s]; exact e1
    simp (disch := omega) only [fX4_makeLevelBelow_s, a1, Option.bind_some, xin_nI, nI_clamp, w1, w2, nI_plus, xlt_def, b1, z0, if_pos, if_true, d1', ey, ← hM5, ← hM6, e1', ← hM8, f1]
  · exact a2.of F16
  · intro p q hp hq hlt
    obtain ⟨j, g1, g2⟩ := hslot p hp
    obtain ⟨j', g1', g2'⟩ := hslot q hq
    rcases Nat.lt_trichotomy j j' with g | g | g
    · rcases p3 j j' p q g g1' g2 g2' with w | w
      · exact w
      · have := (hNn.2.2.1 j j' p q g g1' g2 g2' hp hq).2.mpr w
        have this : nm p = nm q := this
        omega
    · subst g
      rw [g2] at g2'
      have := Option.some.inj g2'
      subst this
      omega
    · have := (hNn.2.2.1 j' j q p g g1 g2' g2 hq hp).1
      have this : nm q ≤ nm p := this
      omega
  · intro p q hp hq hne he
    obtain ⟨j, g1, g2⟩ := hslot p hp
    obtain ⟨j', g1', g2'⟩ := hslot q hq
    rcases Nat.lt_trichotomy j j' with g | g | g
    · exact (hNn.2.2.1 j j' p q g g1' g2 g2' hp hq).2.mp he
    · subst g
      rw [g2] at g2'
      exact absurd (Option.some.inj g2') hne
    · exact ((hNn.2.2.1 j' j q p g g1 g2' g2 hq hp).2.mp he.symm).symm
  · intro k hk
    simp only [List.mem_cons, List.not_mem_nil, or_false, not_or] at hk
    have nx : ∀ (ks : List Nat), (∀ a, a ∈ ks → a = 14 ∨ a = 15 ∨ a = 16 ∨ a = 17 ∨ a = 18 ∨ a = 19 ∨ a = 20 ∨ a = 21 ∨ a = 22 ∨ a = 23 ∨ a = 24) → k ∉ ks := by
      intro ks h g
      have := h k g
      omega
    rw [f3 k (nx _ (by simp)), hM8, xs1_ne (by omega), e3 k (nx _ (by simp)), hF6 k (nx _ (by simp)), d3 k (nx _ (by simp)), hF3 k (nx _ (by simp)), b4 k (nx _ (by simp)), a3 k (nx _ (by simp))]
  · intro j hj
    rw [F16]
    exact a4 j (Or.inl hj)
  · intro j hj
    rw [F17, b5 j hj, a3 17 (by decide)]
