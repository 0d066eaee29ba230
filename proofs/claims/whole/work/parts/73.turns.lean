/-! KINDS, TURNS, PIECES over the memory -/
noncomputable def Sx (n : Nat) (T : Nat → Nat) (q : Nat) : Bool := @decide (slt n T q (q + 1)) (Classical.propDecidable _)
theorem Sx_iff {n : Nat} {T : Nat → Nat} (q : Nat) : Sx n T q = true ↔ slt n T q (q + 1) := by
  unfold Sx
  exact @decide_eq_true_iff _ (Classical.propDecidable _)
theorem narZ0 : vp_nar .boolean 0 = 0 := by decide
theorem narZ1 : vp_nar .boolean 1 = 1 := by decide
def bI (b : Bool) : Int32 := if b then 1 else 0
theorem bI_nar (b : Bool) : vp_nar .boolean (bI b) = bI b := by cases b <;> decide
theorem bI_0 (b : Bool) : bI b = 0 ↔ b = false := by cases b <;> decide
theorem rises_loop {l b n K : Nat} {T : Nat → Nat} : ∀ (k fuel : Nat) (M : xM), k ≤ n → k < fuel → Lv M l b n K T → (∀ q, k ≤ q → q < n → M 16 (b + q) = bI (Sx n T q)) →
    ∃ M2, fX4_markRises_19 fuel (nI l) (nI b) (bI (Sx n T k)) (nI k - 1) M = some M2 ∧ (∀ q, q < n → M2 16 (b + q) = bI (Sx n T q)) ∧ Fr [16] M M2 ∧ (∀ j, j < b ∨ b + n ≤ j → M2 16 j = M 16 j) := by
  intro k
  induction k with
  | zero =>
    intro fuel M hk hf hL hq
    obtain ⟨f, rfl⟩ : ∃ f, fuel = f + 1 := ⟨fuel - 1, by omega⟩
    exact ⟨M, by simp (disch := omega) only [fX4_markRises_19_s, nI_dn, if_pos, if_true], fun q h => hq q (by omega) h, Fr.rf, fun _ _ => rfl⟩
  | succ k ih =>
    intro fuel M hk hf hL hq
    obtain ⟨f, rfl⟩ : ∃ f, fuel = f + 1 := ⟨fuel - 1, by omega⟩
    obtain ⟨hl, hb, hn, hK, h1, h2, h3, hT⟩ := id hL
    obtain ⟨M2, a1, a2, a3, a4⟩ := ih f (xs1 M 16 (b + k) (bI (Sx n T k))) (by omega) (by omega) (hL.of (xs1_ne (by decide)) (xs1_ne (by decide)) (xs1_ne (by decide)) (xs1_ne (by decide))) (fun q h0 hqn => by
      rw [xs1_cell]
      by_cases e : q = k
      · subst e; rw [if_pos rfl]
      · rw [if_neg (by omega)]; exact hq q (by omega) hqn)
    have hend : fX4_markRises_89 (fX4_markRises_19 f) (nI l) (nI b) (bI (Sx n T k)) (nI k) M = some M2 := by
      simp (disch := omega) only [fX4_markRises_89_s, nI_plus, xin_nI, nI_clamp, bI_nar, xlt_def, nI_addm1, if_pos, if_true, a1]
    refine ⟨M2, ?_, a2, (Fr.s1 (by decide)).tr a3, fun j hj => by rw [a4 j hj, xs1_cell, if_neg (by omega)]⟩
    by_cases hlast : k + 1 = n
    · have e1 : Sx n T k = Sx n T (k + 1) := by
        have g1 : Sx n T k = false := by
          cases hz : Sx n T k with
          | false => rfl
          | true => have := slt_lt ((Sx_iff k).mp hz); omega
        have g2 : Sx n T (k + 1) = false := by
          cases hz : Sx n T (k + 1) with
          | false => rfl
          | true => have := slt_lt ((Sx_iff (k + 1)).mp hz); omega
        rw [g1, g2]
      rw [e1] at hend
      simp (disch := omega) only [fX4_markRises_19_s, nI_sub1, nI_lt0, xin_nI, nI_clamp, hn, nI_add1, nI_le_iff, if_pos, if_true, if_false, hend]
    · obtain ⟨hT1, -⟩ := hT k (by omega)
      obtain ⟨hT2, -⟩ := hT (k + 1) (by omega)
      have hTb := (hT k (by omega)).2
      have hTb2 := (hT (k + 1) (by omega)).2
      rw [← Nat.add_assoc] at hT2
      have hrec : Sx n T k = true ↔ T k < T (k + 1) ∨ (T k = T (k + 1) ∧ Sx n T (k + 1) = true) := kind_rec (fun p _ => Sx_iff p) (by omega)
      rcases Nat.lt_trichotomy (T k) (T (k + 1)) with g | g | g
      · have e1 : Sx n T k = true := hrec.mpr (Or.inl g)
        rw [e1] at hend
        simp (disch := omega) only [fX4_markRises_19_s, nI_sub1, nI_lt0, xin_nI, nI_clamp, hn, nI_add1, nI_le_iff, nI_plus, hT1, hT2, nI_eq_iff, if_pos, if_neg, if_true, if_false, fX4_markRises_88_s]
        exact hend
      · have e1 : Sx n T k = Sx n T (k + 1) := by
          cases hz : Sx n T (k + 1) with
          | true => exact hrec.mpr (Or.inr ⟨g, hz⟩)
          | false =>
            cases hz2 : Sx n T k with
            | false => rfl
            | true =>
              rcases hrec.mp hz2 with w | w
              · omega
              · rw [hz] at w; exact absurd w.2 (by simp)
        rw [e1] at hend
        simp (disch := omega) only [fX4_markRises_19_s, nI_sub1, nI_lt0, xin_nI, nI_clamp, hn, nI_add1, nI_le_iff, nI_plus, hT1, hT2, nI_eq_iff, if_pos, if_neg, if_true, if_false, hend]
      · have e1 : Sx n T k = false := by
          cases hz2 : Sx n T k with
          | false => rfl
          | true =>
            rcases hrec.mp hz2 with w | w
            · omega
            · omega
        rw [e1] at hend
        simp (disch := omega) only [fX4_markRises_19_s, nI_sub1, nI_lt0, xin_nI, nI_clamp, hn, nI_add1, nI_le_iff, nI_plus, hT1, hT2, nI_eq_iff, if_pos, if_neg, if_true, if_false, fX4_markRises_88_s]
        exact hend
theorem rises_ok {M : xM} {l b n K : Nat} {T : Nat → Nat} (hL : Lv M l b n K T) : ∃ M2, fX4_markRises (nI l) M = some M2 ∧ LvS M2 b n (Sx n T) ∧ Fr [16] M M2 ∧ (∀ j, j < b ∨ b + n ≤ j → M2 16 j = M 16 j) := by
  obtain ⟨hl, hb, hn, hK, h1, h2, h3, hT⟩ := id hL
  obtain ⟨M2, a1, a2, a3, a4⟩ := rises_loop n 4096 M (Nat.le_refl _) (by omega) hL (fun q _ h => by omega)
  have e1 : Sx n T n = false := by
    cases hz : Sx n T n with
    | false => rfl
    | true => have := slt_lt ((Sx_iff n).mp hz); omega
  rw [e1] at a1
  have a1' : fX4_markRises_19 4096 (nI l) (nI b) 0 (nI n - 1) M = some M2 := a1
  refine ⟨M2, ?_, a2, a3, a4⟩
  simp (disch := omega) only [fX4_markRises_s, xin_nI, nI_clamp, hb, hn, xlt_def, if_pos, if_true, a1']
theorem turn_ok {M : xM} {l b n K : Nat} {T : Nat → Nat} {S : Nat → Bool} (hL : Lv M l b n K T) (hS : LvS M b n S) {q : Nat} (hq : q < n) : fX4_isTurn (nI l) (nI q) M = some (bI (LMx n S q)) := by
  obtain ⟨hl, hb, hn, hK, h1, h2, h3, hT⟩ := id hL
  by_cases h0 : q = 0
  · subst h0
    have e1 : LMx n S 0 = false := by unfold LMx; simp
    have e2 : nI 0 ≤ 0 := by decide
    rw [e1]
    simp (disch := omega) only [fX4_isTurn_s, xin_nI, if_pos, if_true, e2]
    rfl
  · have hq1 : M 16 (b + q) = bI (S q) := hS q hq
    have hq2 : M 16 (b + (q - 1)) = bI (S (q - 1)) := hS (q - 1) (by omega)
    have e0 : nI (b + q) - 1 = nI (b + (q - 1)) := by
      have := nI_sub1 (b + (q - 1))
      rw [show b + (q - 1) + 1 = b + q by omega] at this
      exact this
    have e2 : ¬ nI q ≤ 0 := fun g => h0 ((nI_le0 (by omega)).mp g)
    have e3 : LMx n S q = (S q && !S (q - 1)) := by
      unfold LMx
      have : (0 < q ∧ q < n) := by omega
      simp [this]
    rw [e3]
    simp (disch := omega) only [fX4_isTurn_s, xin_nI, nI_clamp, hb, nI_plus, hq1, hq2, e0, e2, if_pos, if_true, if_false]
    cases S q <;> cases S (q - 1) <;> rfl
theorem cnt_find {P : Nat → Bool} : ∀ (n k : Nat), k < cnt P n → ∃ q, q < n ∧ P q = true ∧ cnt P q = k := by
  intro n
  induction n with
  | zero => intro k hk; exact absurd hk (Nat.not_lt_zero _)
  | succ n ih =>
    intro k hk
    simp only [cnt] at hk
    by_cases h : k < cnt P n
    · obtain ⟨q, a, b⟩ := ih k h
      exact ⟨q, by omega, b⟩
    · by_cases hP : P n = true
      · rw [if_pos hP] at hk
        exact ⟨n, by omega, hP, by omega⟩
      · rw [if_neg hP] at hk
        omega
theorem cnt_mono (P : Nat → Bool) {a b : Nat} (h : a ≤ b) : cnt P a ≤ cnt P b := by
  induction b with
  | zero => rw [show a = 0 by omega]; exact Nat.le_refl _
  | succ b ih =>
    by_cases e : a = b + 1
    · subst e; exact Nat.le_refl _
    · have := ih (by omega)
      simp only [cnt]
      omega
theorem turns_loop {l b n K y : Nat} {T : Nat → Nat} {S : Nat → Bool} (hy : y + n ≤ 1224) : ∀ (d p fuel : Nat) (M : xM), p + d = n → 0 < p → d < fuel → Lv M l b n K T → LvS M b n S → (∀ q, q < p → LMx n S q = true → M 17 (y + cnt (LMx n S) q) = nI q) → y + cnt (LMx n S) n ≤ 816 →
    ∃ M2, fX4_collectTurns_5 fuel (nI l) (nI y) (nI (cnt (LMx n S) p)) (nI p) M = some (nI (cnt (LMx n S) n), M2) ∧ (∀ q, q < n → LMx n S q = true → M2 17 (y + cnt (LMx n S) q) = nI q) ∧ Fr [17] M M2 ∧ (∀ j, j < y → M2 17 j = M 17 j) := by
  intro d
  induction d with
  | zero =>
    intro p fuel M hp h0 hf hL hS hq hm
    obtain ⟨f, rfl⟩ : ∃ f, fuel = f + 1 := ⟨fuel - 1, by omega⟩
    obtain ⟨hl, hb, hn, hK, h1, h2, h3, hT⟩ := id hL
    have hpn : p = n := by omega
    subst hpn
    exact ⟨M, by simp (disch := omega) only [fX4_collectTurns_5_s, xin_nI, nI_clamp, hn, nI_le_iff, if_pos, if_true], hq, Fr.rf, fun _ _ => rfl⟩
  | succ d ih =>
    intro p fuel M hp h0 hf hL hS hq hm
    obtain ⟨f, rfl⟩ : ∃ f, fuel = f + 1 := ⟨fuel - 1, by omega⟩
    obtain ⟨hl, hb, hn, hK, h1, h2, h3, hT⟩ := id hL
    have ht := turn_ok hL hS (show p < n by omega)
    have hmono := cnt_mono (LMx n S) (show p + 1 ≤ n by omega)
    cases hz : LMx n S p with
    | false =>
      have hc : cnt (LMx n S) (p + 1) = cnt (LMx n S) p := by simp only [cnt]; rw [hz]; simp
      obtain ⟨M2, a1, a2, a3, a4⟩ := ih (p + 1) f M (by omega) (by omega) (by omega) hL hS (fun q hqp hLq => by
        by_cases e : q = p
        · subst e; rw [hz] at hLq; exact absurd hLq (by simp)
        · exact hq q (by omega) hLq) hm
      rw [hc] at a1
      refine ⟨M2, ?_, a2, a3, a4⟩
      rw [hz] at ht
      have e1 : bI false = 0 := rfl
      simp (disch := omega) only [fX4_collectTurns_5_s, xin_nI, nI_clamp, hn, nI_le_iff, if_pos, if_neg, if_true, if_false, ht, e1, Option.bind_some, fX4_collectTurns_39_s, nI_add1, a1]
    | true =>
      have hc : cnt (LMx n S) (p + 1) = cnt (LMx n S) p + 1 := by simp only [cnt]; rw [hz]; simp
      obtain ⟨M2, a1, a2, a3, a4⟩ := ih (p + 1) f (xs1 M 17 (y + cnt (LMx n S) p) (nI p)) (by omega) (by omega) (by omega) (hL.of (xs1_ne (by decide)) (xs1_ne (by decide)) (xs1_ne (by decide)) (xs1_ne (by decide))) (hS.of (xs1_ne (by decide))) (fun q hqp hLq => by
        rw [xs1_cell]
        by_cases e : q = p
        · subst e; rw [if_pos rfl]
        · have h4 : cnt (LMx n S) (q + 1) = cnt (LMx n S) q + 1 := by simp only [cnt]; rw [hLq]; simp
          have h5 := cnt_mono (LMx n S) (show q + 1 ≤ p by omega)
          rw [if_neg (by omega)]
          exact hq q (by omega) hLq) hm
      rw [hc] at a1
      refine ⟨M2, ?_, a2, (Fr.s1 (by decide)).tr a3, fun j hj => by rw [a4 j hj, xs1_cell, if_neg (by omega)]⟩
      rw [hz] at ht
      have e1 : ¬ bI true = 0 := by decide
      simp (disch := omega) only [fX4_collectTurns_5_s, xin_nI, nI_clamp, hn, nI_le_iff, if_pos, if_neg, if_true, if_false, ht, e1, Option.bind_some, nI_plus, xlt_def, fX4_collectTurns_39_s, nI_add1, a1]
/-- the turns are told from the left -/
theorem turns_ok {M : xM} {l b n K y : Nat} {T : Nat → Nat} {S : Nat → Bool} (hL : Lv M l b n K T) (hS : LvS M b n S) (hSd : ∀ p, p < n → (S p = true ↔ slt n T p (p + 1))) (hy : y + n ≤ 1224) (hm : y + n / 2 ≤ 816) :
    ∃ (m : Nat) (tn : Nat → Nat) (M2 : xM), fX4_collectTurns (nI l) (nI y) M = some (nI m, M2) ∧ turnsx n S m tn ∧ (∀ k, k < m → M2 17 (y + k) = nI (tn k)) ∧ Fr [17] M M2 ∧ (∀ j, j < y → M2 17 j = M 17 j) := by
  -- the k-th turn
  have hex : ∀ k, ∃ q, k < cnt (LMx n S) n → q < n ∧ LMx n S q = true ∧ cnt (LMx n S) q = k := by
    intro k
    by_cases h : k < cnt (LMx n S) n
    · obtain ⟨q, hq⟩ := cnt_find n k h
      exact ⟨q, fun _ => hq⟩
    · exact ⟨0, fun g => absurd g h⟩
  obtain ⟨tn, htn⟩ : ∃ tn : Nat → Nat, ∀ k, k < cnt (LMx n S) n → tn k < n ∧ LMx n S (tn k) = true ∧ cnt (LMx n S) (tn k) = k := ⟨fun k => Classical.choose (hex k), fun k => Classical.choose_spec (hex k)⟩
  have hone : ∀ q, q < n → LMx n S q = true → cnt (LMx n S) q < cnt (LMx n S) n := by
    intro q hq hL
    have h4 : cnt (LMx n S) (q + 1) = cnt (LMx n S) q + 1 := by simp only [cnt]; rw [hL]; simp
    have h5 := cnt_mono (LMx n S) (show q + 1 ≤ n by omega)
    omega
  have ht : turnsx n S (cnt (LMx n S) n) tn := by
    refine ⟨fun k hk => (htn k hk).2.1, fun k hk => ?_, fun q hL => ?_⟩
    · rcases Nat.lt_or_ge (tn k) (tn (k + 1)) with g | g
      · exact g
      · have h1 := cnt_mono (LMx n S) g
        rw [(htn k (by omega)).2.2, (htn (k + 1) hk).2.2] at h1
        omega
    · have hq := (LMx_iff.mp hL).2.1
      have hk := hone q hq hL
      refine ⟨cnt (LMx n S) q, hk, ?_⟩
      have h1 := htn _ hk
      -- same count, both turns: the same place
      rcases Nat.lt_trichotomy (tn (cnt (LMx n S) q)) q with g | g | g
      · have h4 : cnt (LMx n S) (tn (cnt (LMx n S) q) + 1) = cnt (LMx n S) (tn (cnt (LMx n S) q)) + 1 := by simp only [cnt]; rw [h1.2.1]; simp
        have h5 := cnt_mono (LMx n S) (show tn (cnt (LMx n S) q) + 1 ≤ q by omega)
        omega
      · exact g
      · have h4 : cnt (LMx n S) (q + 1) = cnt (LMx n S) q + 1 := by simp only [cnt]; rw [hL]; simp
        have h5 := cnt_mono (LMx n S) (show q + 1 ≤ tn (cnt (LMx n S) q) by omega)
        omega
  have hhalf := ht.half hSd
  by_cases hn0 : n = 0
  · subst hn0
    obtain ⟨hl, hb, hn, hK, h1, h2, h3, hT⟩ := id hL
    refine ⟨0, tn, M, ?_, ht, fun k hk => by omega, Fr.rf, fun _ _ => rfl⟩
    have z : nI 0 ≤ 1 := by decide
    rw [fX4_collectTurns_s]
    simp (disch := omega) only [fX4_collectTurns_5_s, xin_nI, nI_clamp, hn, z, if_pos, if_true]
    rfl
  · have hc1 : cnt (LMx n S) 1 = 0 := by
      have : LMx n S 0 = false := by unfold LMx; simp
      simp [cnt, this]
    obtain ⟨M2, a1, a2, a3, a4⟩ := turns_loop hy (n - 1) 1 4096 M (by omega) (by omega) (by have := hL.2.2.2.2.2.1; omega) hL hS (fun q hq hLq => by
      have := (LMx_iff.mp hLq).1
      omega) (by omega)
    rw [hc1] at a1
    exact ⟨_, tn, M2, a1, ht, fun k hk => by
      have := a2 (tn k) (htn k hk).1 (htn k hk).2.1
      rw [(htn k hk).2.2] at this
      exact this, a3, a4⟩
noncomputable def smx (n : Nat) (T : Nat → Nat) (S : Nat → Bool) (p q : Nat) : Bool := @decide (samep n T S p q) (Classical.propDecidable _)
theorem smx_iff {n : Nat} {T : Nat → Nat} {S : Nat → Bool} (p q : Nat) : smx n T S p q = true ↔ samep n T S p q := by
  unfold smx
  exact @decide_eq_true_iff _ (Classical.propDecidable _)
theorem same_loop {l b n K p q : Nat} {T : Nat → Nat} {S : Nat → Bool} {M : xM} (hL : Lv M l b n K T) (hS : LvS M b n S) (hSd : ∀ p, p < n → (S p = true ↔ slt n T p (p + 1))) (hp : LMx n S p = true) (hq : LMx n S q = true) :
    ∀ (d k fuel : Nat), n ≤ p + k + d → d < fuel → k ≤ n → (∀ i, i < k → p + i < n ∧ q + i < n ∧ T (p + i) = T (q + i)) → (∀ i, 0 < i → i < k → LMx n S (p + i) = false ∧ LMx n S (q + i) = false) →
      fX4_isSamePiece_11 fuel (nI l) (nI p) (nI q) (nI b) (nI k) M = some (bI (smx n T S p q)) := by
  obtain ⟨hl, hb, hn, hK, h1, h2, h3, hT⟩ := id hL
  have hpn := (LMx_iff.mp hp).2.1
  have hqn := (LMx_iff.mp hq).2.1
  have hno : ∀ k, (∀ i, 0 < i → i < k → LMx n S (p + i) = false ∧ LMx n S (q + i) = false) → (∀ d, piece n S p d → piece n S q d → (∀ i, i ≤ d → T (p + i) = T (q + i) ∧ S (p + i) = S (q + i)) → k ≤ d → False) → smx n T S p q = false := by
    intro k hk hd
    cases hz : smx n T S p q with
    | false => rfl
    | true =>
      obtain ⟨d, g1, g2, g3⟩ := (smx_iff p q).mp hz
      rcases Nat.lt_or_ge d k with g | g
      · have := (hk d g1.1 g).1
        rw [g1.2.2.1] at this
        exact absurd this (by simp)
      · exact (hd d g1 g2 g3 g).elim
  have b0 : bI false = 0 := rfl
  intro d
  induction d with
  | zero =>
    intro k fuel hd hf hkn hT1 hLk
    obtain ⟨f, rfl⟩ : ∃ f, fuel = f + 1 := ⟨fuel - 1, by omega⟩
    have hs := hno k hLk (fun d g1 g2 g3 g => by have := g1.2.1; omega)
    rw [hs, b0]
    simp (disch := omega) only [fX4_isSamePiece_11_s, xin_nI, nI_clamp, hn, nI_plus, nI_le_iff, if_pos, if_true]
  | succ d ih =>
    intro k fuel hd hf hkn hT1 hLk
    obtain ⟨f, rfl⟩ : ∃ f, fuel = f + 1 := ⟨fuel - 1, by omega⟩
    by_cases c1 : n ≤ p + k
    · have hs := hno k hLk (fun d g1 g2 g3 g => by have := g1.2.1; omega)
      rw [hs, b0]
      simp (disch := omega) only [fX4_isSamePiece_11_s, xin_nI, nI_clamp, hn, nI_plus, nI_le_iff, if_pos, if_true]
    · by_cases c2 : n ≤ q + k
      · have hs := hno k hLk (fun d g1 g2 g3 g => by have := g2.2.1; omega)
        rw [hs, b0]
        simp (disch := omega) only [fX4_isSamePiece_11_s, xin_nI, nI_clamp, hn, nI_plus, nI_le_iff, if_pos, if_neg, if_true, if_false]
      · obtain ⟨hTp, hTp2⟩ := hT (p + k) (by omega)
        obtain ⟨hTq, hTq2⟩ := hT (q + k) (by omega)
        rw [← Nat.add_assoc] at hTp hTq
        have ht1 := turn_ok hL hS (show p + k < n by omega)
        have ht2 := turn_ok hL hS (show q + k < n by omega)
        by_cases c3 : T (p + k) = T (q + k)
        · by_cases c4 : LMx n S (p + k) = LMx n S (q + k)
          · by_cases c5 : LMx n S (p + k) = true ∧ 0 < k
            · have hs : smx n T S p q = true := by
                refine (smx_iff p q).mpr (samep_of hSd ⟨c5.2, by omega, c5.1, fun i h0 hi => (hLk i h0 hi).1⟩ (by omega) (fun i hi => ?_) ?_)
                · by_cases e : i = k
                  · subst e; exact c3
                  · exact (hT1 i (by omega)).2.2
                · rw [c5.1] at c4
                  exact (LMx_iff.mp c4.symm).2.2.1
              have e1 : ¬ bI true = 0 := by decide
              have e2 : ¬ nI k ≤ 0 := fun g => by have := (nI_le0 (by omega)).mp g; omega
              rw [c5.1] at ht1
              rw [← c4, c5.1] at ht2
              rw [hs]
              simp (disch := omega) only [fX4_isSamePiece_11_s, xin_nI, nI_clamp, hn, nI_plus, nI_le_iff, if_pos, if_neg, if_true, if_false, hTp, hTq, nI_eq_iff, ht1, ht2, Option.bind_some, e1, e2]
              rfl
            · have hnext := ih (k + 1) f (by omega) (by omega) (by omega) (fun i hi => by
                by_cases e : i = k
                · subst e; exact ⟨by omega, by omega, c3⟩
                · exact hT1 i (by omega)) (fun i h0 hi => by
                by_cases e : i = k
                · subst e
                  have g1 : LMx n S (p + i) = false := by
                    cases hz : LMx n S (p + i) with
                    | false => rfl
                    | true => exact absurd ⟨hz, h0⟩ c5
                  exact ⟨g1, by rw [← c4]; exact g1⟩
                · exact hLk i h0 (by omega))
              rw [← c4] at ht2
              by_cases c6 : LMx n S (p + k) = true
              · have hk0 : k = 0 := by
                  rcases Nat.eq_zero_or_pos k with g | g
                  · exact g
                  · exact absurd ⟨c6, g⟩ c5
                have e1 : ¬ bI true = 0 := by decide
                have e2 : nI k ≤ 0 := by rw [hk0]; decide
                rw [c6] at ht1 ht2
                simp (disch := omega) only [fX4_isSamePiece_11_s, xin_nI, nI_clamp, hn, nI_plus, nI_le_iff, if_pos, if_neg, if_true, if_false, hTp, hTq, nI_eq_iff, ht1, ht2, Option.bind_some, e1, e2, fX4_isSamePiece_105_s, nI_add1, hnext]
              · have c6 : LMx n S (p + k) = false := by simpa using c6
                rw [c6, b0] at ht1 ht2
                simp (disch := omega) only [fX4_isSamePiece_11_s, xin_nI, nI_clamp, hn, nI_plus, nI_le_iff, if_pos, if_neg, if_true, if_false, hTp, hTq, nI_eq_iff, ht1, ht2, Option.bind_some, fX4_isSamePiece_105_s, nI_add1, hnext]
          · have hs := hno k hLk (fun d g1 g2 g3 g => by
              by_cases hk0 : k = 0
              · subst hk0
                rw [Nat.add_zero, Nat.add_zero, hp, hq] at c4
                exact c4 rfl
              · apply c4
                have e1 := (g3 k g).2
                have e2 := (g3 (k - 1) (by omega)).2
                unfold LMx
                rw [show p + k - 1 = p + (k - 1) by omega, show q + k - 1 = q + (k - 1) by omega, e1, e2]
                have a1 : (0 < p + k ∧ p + k < n) := by omega
                have a2 : (0 < q + k ∧ q + k < n) := by omega
                simp only [a1, a2])
            have e1 : ¬ bI (LMx n S (p + k)) = bI (LMx n S (q + k)) := by
              intro g
              apply c4
              cases ha : LMx n S (p + k) <;> cases hb2 : LMx n S (q + k) <;> rw [ha, hb2] at g <;> first | rfl | exact absurd g (by decide)
            rw [hs, b0]
            simp (disch := omega) only [fX4_isSamePiece_11_s, xin_nI, nI_clamp, hn, nI_plus, nI_le_iff, if_pos, if_neg, if_true, if_false, hTp, hTq, nI_eq_iff, ht1, ht2, Option.bind_some, e1]
        · have hs := hno k hLk (fun d g1 g2 g3 g => c3 (g3 k g).1)
          rw [hs, b0]
          simp (disch := omega) only [fX4_isSamePiece_11_s, xin_nI, nI_clamp, hn, nI_plus, nI_le_iff, if_pos, if_neg, if_true, if_false, hTp, hTq, nI_eq_iff]
theorem same_ok {l b n K p q : Nat} {T : Nat → Nat} {S : Nat → Bool} {M : xM} (hL : Lv M l b n K T) (hS : LvS M b n S) (hSd : ∀ p, p < n → (S p = true ↔ slt n T p (p + 1))) (hp : LMx n S p = true) (hq : LMx n S q = true) : fX4_isSamePiece (nI l) (nI p) (nI q) M = some (bI (smx n T S p q)) := by
  obtain ⟨hl, hb, hn, hK, h1, h2, h3, hT⟩ := id hL
  have h := same_loop hL hS hSd hp hq n 0 4096 (by omega) (by omega) (by omega) (fun i hi => by omega) (fun i h0 hi => by omega)
  have h : fX4_isSamePiece_11 4096 (nI l) (nI p) (nI q) (nI b) 0 M = _ := h
  simp (disch := omega) only [fX4_isSamePiece_s, xin_nI, nI_clamp, hb, if_pos, if_true, h]
