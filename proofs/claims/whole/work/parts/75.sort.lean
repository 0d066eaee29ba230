/-! THE SORTER gives the row of all suffixes -/
theorem byNames_loop {l b m K : Nat} {T : Nat → Nat} (hinj : ∀ k k', k < m → k' < m → T k = T k' → k = k') (hT4 : ∀ k, k < m → T k < 408) : ∀ (d k fuel : Nat) (M : xM), k + d = m → d < fuel → Lv M l b m K T → (∀ i, i < k → M 14 (T i) = nI i) →
    ∃ M2, fX4_orderByNames_2 fuel (nI l) (nI k) M = some M2 ∧ (∀ i, i < m → M2 14 (T i) = nI i) ∧ Fr [14] M M2 := by
  intro d
  induction d with
  | zero =>
    intro k fuel M hk hf hL h14
    obtain ⟨f, rfl⟩ : ∃ f, fuel = f + 1 := ⟨fuel - 1, by omega⟩
    obtain ⟨hl, hb, hn, hK, h1, h2, h3, hT⟩ := id hL
    exact ⟨M, by simp (disch := omega) only [fX4_orderByNames_2_s, xin_nI, nI_clamp, hn, nI_le_iff, if_pos, if_true], fun i hi => h14 i (by omega), Fr.rf⟩
  | succ d ih =>
    intro k fuel M hk hf hL h14
    obtain ⟨f, rfl⟩ : ∃ f, fuel = f + 1 := ⟨fuel - 1, by omega⟩
    obtain ⟨hl, hb, hn, hK, h1, h2, h3, hT⟩ := id hL
    obtain ⟨hT1, hT2⟩ := hT k (by omega)
    have h4 := hT4 k (by omega)
    obtain ⟨M2, a1, a2, a3⟩ := ih (k + 1) f (xs1 M 14 (T k) (nI k)) (by omega) (by omega) (hL.of (xs1_ne (by decide)) (xs1_ne (by decide)) (xs1_ne (by decide)) (xs1_ne (by decide))) (fun i hi => by
      rw [xs1_cell]
      by_cases e : i = k
      · subst e; rw [if_pos rfl]
      · rw [if_neg (fun g => e (hinj i k (by omega) (by omega) g))]; exact h14 i (by omega))
    refine ⟨M2, ?_, a2, (Fr.s1 (by decide)).tr a3⟩
    simp (disch := omega) only [fX4_orderByNames_2_s, xin_nI, nI_clamp, hn, hb, nI_plus, nI_le_iff, if_pos, if_neg, if_true, if_false, hT1, xlt_def, nI_add1, a1]
theorem byNames_ok {M : xM} {l b m K : Nat} {T : Nat → Nat} (hL : Lv M l b m K T) (hmK : m ≤ K) (hsurj : ∀ v, v < K → ∃ k, k < m ∧ T k = v) : ∃ (M2 : xM) (o : Nat → Option Nat), fX4_orderByNames (nI l) M = some M2 ∧ isSA m T o ∧ (∀ j, j < m → M2 14 j = enc (o j)) ∧ Fr [14] M M2 := by
  obtain ⟨hl, hb, hn, hK, h1, h2, h3, hT⟩ := id hL
  have hinj := surj_inj (m := m) (f := T) (fun v hv => hsurj v (by omega))
  have hex : ∀ v, ∃ k, v < m → k < m ∧ T k = v := by
    intro v
    by_cases hv : v < m
    · obtain ⟨k, hk⟩ := hsurj v (by omega); exact ⟨k, fun _ => hk⟩
    · exact ⟨0, fun g => absurd g hv⟩
  obtain ⟨g, hg⟩ : ∃ g : Nat → Nat, ∀ v, v < m → g v < m ∧ T (g v) = v := ⟨fun v => Classical.choose (hex v), fun v => Classical.choose_spec (hex v)⟩
  have hTm : ∀ k, k < m → T k < m := by
    have hp := pigeon (m := m) (g := g) (fun v hv => (hg v hv).1) (fun v v' hv hv' e => by have a := (hg v hv).2; have b := (hg v' hv').2; rw [e] at a; omega)
    intro k hk
    obtain ⟨v, a1, a2⟩ := hp k hk
    have := (hg v a1).2
    rw [a2] at this
    omega
  obtain ⟨M2, a1, a2, a3⟩ := byNames_loop hinj (fun k hk => by have := hTm k hk; omega) m 0 4096 M (by omega) (by omega) hL (fun i hi => by omega)
  refine ⟨M2, fun v => some (g v), ?_, ⟨fun j hj => ⟨g j, (hg j hj).1, rfl⟩, fun j j' q q' hjj hj' e e' => ?_, fun q hq => ?_⟩, fun j hj => ?_, a3⟩
  · rw [fX4_orderByNames_s]; exact a1
  · have e := Option.some.inj e
    have e' := Option.some.inj e'
    have x1 := hg j (by omega)
    have x2 := hg j' hj'
    rw [e] at x1
    rw [e'] at x2
    exact (slt_head x1.1 x2.1).mpr (Or.inl (by omega))
  · refine ⟨T q, hTm q hq, ?_⟩
    have x1 := hg (T q) (hTm q hq)
    show some _ = some _
    rw [hinj _ q x1.1 hq x1.2]
  · have x1 := hg j hj
    have := a2 (g j) x1.1
    rw [x1.2] at this
    exact this
theorem seeds2_loop {l b1 m : Nat} {tn s1 : Nat → Nat} (hl : l + 1 < 11) (hm : m ≤ 408) (hb : b1 + m ≤ 816) (hs : ∀ k, k < m → s1 k < m) : ∀ (d k fuel : Nat) (M : xM), k + d = m → d < fuel → M 18 (l + 1) = nI b1 → (∀ i, i < m → M 14 i = nI (s1 i) ∧ M 17 (b1 + i) = nI (tn i)) → (∀ i, i < k → M 21 i = nI (tn (s1 i))) →
    ∃ M2, fX4_orderFromBelow_11 fuel (nI l) (nI m) (nI k) M = fX4_orderFromBelow_48 (nI l) (nI m) M2 ∧ (∀ i, i < m → M2 21 i = nI (tn (s1 i))) ∧ Fr [21] M M2 := by
  intro d
  induction d with
  | zero =>
    intro k fuel M hk hf h18 h14 h21
    obtain ⟨f, rfl⟩ : ∃ f, fuel = f + 1 := ⟨fuel - 1, by omega⟩
    exact ⟨M, by simp (disch := omega) only [fX4_orderFromBelow_11_s, nI_le_iff, if_pos, if_true], fun i hi => h21 i (by omega), Fr.rf⟩
  | succ d ih =>
    intro k fuel M hk hf h18 h14 h21
    obtain ⟨f, rfl⟩ : ∃ f, fuel = f + 1 := ⟨fuel - 1, by omega⟩
    have g1 := (h14 k (by omega)).1
    have g2 := (h14 (s1 k) (hs k (by omega))).2
    have g3 := hs k (by omega)
    obtain ⟨M2, a1, a2, a3⟩ := ih (k + 1) f (xs1 M 21 k (nI (tn (s1 k)))) (by omega) (by omega) (by rw [xs1_ne (by decide)]; exact h18) (fun i hi => by rw [xs1_ne (by decide), xs1_ne (by decide)]; exact h14 i hi) (fun i hi => by
      rw [xs1_cell]
      by_cases e : i = k
      · subst e; rw [if_pos rfl]
      · rw [if_neg e]; exact h21 i (by omega))
    refine ⟨M2, ?_, a2, (Fr.s1 (by decide)).tr a3⟩
    simp (disch := omega) only [fX4_orderFromBelow_11_s, nI_le_iff, if_pos, if_neg, if_true, if_false, nI_add1, xin_nI, nI_clamp, h18, g1, nI_plus, g2, xlt_def, a1]
theorem fromBelow_ok {M : xM} {l b n K b1 m K1 : Nat} {T T1 tn : Nat → Nat} {o1 : Nat → Option Nat} (hL : Lv M l b n K T) (hS : LvS M b n (Sx n T)) (hR : Red n m T T1 K1 tn) (h17 : ∀ k, k < m → M 17 (b1 + k) = nI (tn k)) (hl1 : l + 1 < 11) (h18 : M 18 (l + 1) = nI b1) (h19 : M 19 (l + 1) = nI m) (hb1 : b1 + m ≤ 816) (hm : m ≤ 408)
    (ho1 : isSA m T1 o1) (h14 : ∀ j, j < m → M 14 j = enc (o1 j)) : ∃ (M2 : xM) (o : Nat → Option Nat), fX4_orderFromBelow (nI l) M = some M2 ∧ isSA n T o ∧ (∀ j, j < n → M2 14 j = enc (o j)) ∧ Fr [14, 21, 23, 24] M M2 := by
  obtain ⟨ht, ⟨nm, hnm, hn1, hn2⟩, -⟩ := hR
  have hSd : ∀ p, p < n → (Sx n T p = true ↔ slt n T p (p + 1)) := fun p _ => Sx_iff p
  obtain ⟨s1, hs1⟩ : ∃ s1 : Nat → Nat, ∀ j, j < m → o1 j = some (s1 j) ∧ s1 j < m := by
    refine ⟨fun j => (o1 j).getD 0, fun j hj => ?_⟩
    obtain ⟨q, a, b⟩ := ho1.1 j hj
    show o1 j = some ((o1 j).getD 0) ∧ (o1 j).getD 0 < m
    rw [b]
    exact ⟨rfl, a⟩
  obtain ⟨M1, a1, a2, a3⟩ := seeds2_loop (tn := tn) (s1 := s1) hl1 hm hb1 (fun k hk => (hs1 k hk).2) m 0 4096 M (by omega) (by omega) h18 (fun i hi => ⟨by rw [h14 i hi, (hs1 i hi).1]; rfl, h17 i hi⟩) (fun i hi => by omega)
  have hL1 := hL.fr a3 (by decide) (by decide) (by decide) (by decide)
  have hS1 := hS.of (a3 16 (by decide))
  have ho2 : isSA m (fun i => nm (tn i)) o1 := by
    have hsl : ∀ p q, slt m T1 p q → slt m (fun i => nm (tn i)) p q := by
      rintro p q ⟨k, x1, x2, x3⟩
      refine ⟨k, fun i hi => ?_, x2, ?_⟩
      · obtain ⟨y1, y2, y3⟩ := x1 i hi
        refine ⟨y1, y2, ?_⟩
        show nm (tn (p + i)) = nm (tn (q + i))
        rw [← hnm _ y1, ← hnm _ y2]; exact y3
      · rcases x3 with x3 | x3
        · exact Or.inl x3
        · refine Or.inr ⟨x3.1, ?_⟩
          show nm (tn (p + k)) < nm (tn (q + k))
          rw [← hnm _ x3.1, ← hnm _ x2]; exact x3.2
    exact ⟨ho1.1, fun j j' q q' h1 h2 h3 h4 => hsl _ _ (ho1.2.1 j j' q q' h1 h2 h3 h4), ho1.2.2⟩
  have hTK : ∀ p, p < n → T p < K := fun p hp => (hL.2.2.2.2.2.2.2 p hp).2
  have hsa := level_up hSd hTK ht hn1 hn2 ho2 (fun j hj => (hs1 j hj).1)
  have hsd : seeds n (LMx n (Sx n T)) m (fun i => tn (s1 i)) := by
    refine ⟨fun i hi => ⟨(LMx_iff.mp (ht.1 _ (hs1 i hi).2)).2.1, ht.1 _ (hs1 i hi).2⟩, fun i i' hi hi' e => ?_, fun q hq hLq => ?_⟩
    · have := ht.inj (hs1 i hi).2 (hs1 i' hi').2 e
      exact ho1.inj hi hi' (hs1 i hi).1 (by rw [(hs1 i' hi').1, this])
    · obtain ⟨k, hk, e⟩ := ht.2.2 q hLq
      obtain ⟨j, hj, e2⟩ := ho1.2.2 k hk
      rw [(hs1 j hj).1] at e2
      exact ⟨j, hj, by show tn (s1 j) = q; rw [Option.some.inj e2]; exact e⟩
  obtain ⟨M2, b1', b2, b3⟩ := induce_ok hL1 hS1 hSd hsd hm a2
  refine ⟨M2, _, ?_, hsa, b2, ?_⟩
  · have z : fX4_orderFromBelow_11 4096 (nI l) (nI m) 0 M = fX4_orderFromBelow_48 (nI l) (nI m) M1 := a1
    simp (disch := omega) only [fX4_orderFromBelow_s, nI_add1, xin_nI, nI_clamp, h19, xlt_def, if_pos, if_true, z, fX4_orderFromBelow_48_s, b1', Option.bind_some]
  · exact (a3.mono (fun k hk => by simp at hk ⊢; omega)).tr (b3.mono (fun k hk => by simp at hk ⊢; omega))
/-- from a level on down, and back up to it -/
theorem sort_levels : ∀ (d l b n K m K1 fuel : Nat) (T T1 tn : Nat → Nat) (M : xM), n ≤ d → d < fuel → Lv M l b n K T → LvS M b n (Sx n T) → Red n m T T1 K1 tn → (∀ k, k < m → M 17 (b + n + k) = nI (tn k)) → Lv M (l + 1) (b + n) m K1 T1 → 2 * m ≤ n → b + 2 * n ≤ 816 → n * 2 ^ l ≤ 408 →
    ∃ (F : Nat) (M2 : xM) (o : Nat → Option Nat), fX4_sort_41 fuel (nI l) M = fX4_sort_86 F (nI l - 1) M2 ∧ 4096 ≤ F + (11 - l) ∧ isSA n T o ∧ (∀ j, j < n → M2 14 j = enc (o j)) ∧ Fr [14, 15, 16, 17, 18, 19, 20, 21, 22, 23, 24] M M2 ∧
      (∀ j, j < b + n → M2 15 j = M 15 j ∧ M2 16 j = M 16 j ∧ M2 17 j = M 17 j) ∧ (∀ i, i ≤ l + 1 → M2 18 i = M 18 i ∧ M2 19 i = M 19 i ∧ M2 20 i = M 20 i) := by
  intro d
  induction d with
  | zero =>
    intro l b n K m K1 fuel T T1 tn M hd hf hL hS hR h17 hL1 h2m hb2 hpow
    -- nothing to sort: as below
    obtain ⟨f, rfl⟩ : ∃ f, fuel = f + 1 := ⟨fuel - 1, by omega⟩
    have hmK : m ≤ K1 := by omega
    obtain ⟨M1, o1, a1, a2, a3, a4⟩ := byNames_ok hL1 hmK hR.2.2
    obtain ⟨M2, o, b1, b2, b3, b4⟩ := fromBelow_ok (hL.fr a4 (by decide) (by decide) (by decide) (by decide)) (hS.of (a4 16 (by decide))) hR (fun k hk => by rw [a4 17 (by decide)]; exact h17 k hk) hL1.1 (by rw [a4 18 (by decide)]; exact hL1.2.1) (by rw [a4 19 (by decide)]; exact hL1.2.2.1) hL1.2.2.2.2.1 hL1.2.2.2.2.2.1 a2 a3
    have hl11 := hL1.1
    refine ⟨4095, M2, o, ?_, by omega, b2, b3, ?_, fun j hj => ⟨by rw [b4 15 (by decide), a4 15 (by decide)], by rw [b4 16 (by decide), a4 16 (by decide)], by rw [b4 17 (by decide), a4 17 (by decide)]⟩, fun i _ => ⟨by rw [b4 18 (by decide), a4 18 (by decide)], by rw [b4 19 (by decide), a4 19 (by decide)], by rw [b4 20 (by decide), a4 20 (by decide)]⟩⟩
    · have w : fX4_sort_79 (nI l) M = fX4_sort_86 4095 (nI l - 1) M2 := by
        rw [fX4_sort_79_s, nI_add1, a1, Option.bind_some]
        show fX4_sort_86 (4095 + 1) (nI l) M1 = _
        rw [fX4_sort_86_s, if_neg (nI_pos (by omega)), b1, Option.bind_some, nI_addm1]
      have e10 : (10 : Int32) = nI 10 := rfl
      have q1 := hL1.2.2.1
      have q2 := hL1.2.2.2.1
      have q3 := hL1.2.2.2.2.2.2.1
      have q4 := hL1.2.2.2.2.2.1
      rw [fX4_sort_41_s, nI_add1, e10]
      by_cases hc : nI 10 ≤ nI (l + 1)
      · rw [if_pos hc]; exact w
      · rw [if_neg hc, if_pos (xin_of hl11 (by omega)), if_pos (xin_of hl11 (by omega)), nI_clamp (by omega), q1, q2, if_pos ((nI_le_iff (by omega) (by omega)).mpr hmK)]
        exact w
    · exact (a4.mono (fun k hk => by simp at hk ⊢; omega)).tr (b4.mono (fun k hk => by simp at hk ⊢; omega))
  | succ d ih =>
    intro l b n K m K1 fuel T T1 tn M hd hf hL hS hR h17 hL1 h2m hb2 hpow
    obtain ⟨f, rfl⟩ : ∃ f, fuel = f + 1 := ⟨fuel - 1, by omega⟩
    have hl11 := hL1.1
    have e10 : (10 : Int32) = nI 10 := rfl
    have q1 := hL1.2.2.1
    have q2 := hL1.2.2.2.1
    have q3 := hL1.2.2.2.2.2.2.1
    have q4 := hL1.2.2.2.2.2.1
    by_cases hmK : m ≤ K1
    · obtain ⟨M1, o1, a1, a2, a3, a4⟩ := byNames_ok hL1 hmK hR.2.2
      obtain ⟨M2, o, b1, b2, b3, b4⟩ := fromBelow_ok (hL.fr a4 (by decide) (by decide) (by decide) (by decide)) (hS.of (a4 16 (by decide))) hR (fun k hk => by rw [a4 17 (by decide)]; exact h17 k hk) hL1.1 (by rw [a4 18 (by decide)]; exact hL1.2.1) (by rw [a4 19 (by decide)]; exact hL1.2.2.1) hL1.2.2.2.2.1 hL1.2.2.2.2.2.1 a2 a3
      refine ⟨4095, M2, o, ?_, by omega, b2, b3, ?_, fun j hj => ⟨by rw [b4 15 (by decide), a4 15 (by decide)], by rw [b4 16 (by decide), a4 16 (by decide)], by rw [b4 17 (by decide), a4 17 (by decide)]⟩, fun i _ => ⟨by rw [b4 18 (by decide), a4 18 (by decide)], by rw [b4 19 (by decide), a4 19 (by decide)], by rw [b4 20 (by decide), a4 20 (by decide)]⟩⟩
      · have w : fX4_sort_79 (nI l) M = fX4_sort_86 4095 (nI l - 1) M2 := by
          rw [fX4_sort_79_s, nI_add1, a1, Option.bind_some]
          show fX4_sort_86 (4095 + 1) (nI l) M1 = _
          rw [fX4_sort_86_s, if_neg (nI_pos (by omega)), b1, Option.bind_some, nI_addm1]
        rw [fX4_sort_41_s, nI_add1, e10]
        by_cases hc : nI 10 ≤ nI (l + 1)
        · rw [if_pos hc]; exact w
        · rw [if_neg hc, if_pos (xin_of hl11 (by omega)), if_pos (xin_of hl11 (by omega)), nI_clamp (by omega), q1, q2, if_pos ((nI_le_iff (by omega) (by omega)).mpr hmK)]
          exact w
      · exact (a4.mono (fun k hk => by simp at hk ⊢; omega)).tr (b4.mono (fun k hk => by simp at hk ⊢; omega))
    · have hl9 : l + 1 < 10 := by
        rcases Nat.lt_or_ge (l + 1) 10 with g | g
        · exact g
        · exfalso
          have h9 : 2 ^ 9 ≤ 2 ^ l := Nat.pow_le_pow_right (by omega) (by omega)
          have h10 : n * 2 ^ 9 ≤ n * 2 ^ l := Nat.mul_le_mul_left n h9
          have h11 : n * 512 ≤ 408 := by
            have : (2 : Nat) ^ 9 = 512 := rfl
            rw [this] at h10
            omega
          omega
      obtain ⟨m', K', T', tn', M1, c1, c2, c3, c4, c5, c6, c7, c8, c9, c10, c11, c12⟩ := below_ok hL1 (by omega) (by omega)
      have hpow2 : m * 2 ^ (l + 1) ≤ 408 := by
        have h1 : m * 2 ^ (l + 1) = (2 * m) * 2 ^ l := by rw [Nat.pow_succ, Nat.mul_comm (2 ^ l) 2, ← Nat.mul_assoc, Nat.mul_comm m 2]
        rw [h1]
        exact Nat.le_trans (Nat.mul_le_mul_right _ h2m) hpow
      obtain ⟨F, M2, o1, d1, d2, d3, d4, d5, d6, d7⟩ := ih (l + 1) (b + n) m K1 m' K' f T1 T' tn' M1 (by omega) (by omega) c2 c3 c4 c5 c6 c7 (by omega) hpow2
      have hL2 : Lv M2 l b n K T := by
        obtain ⟨z1, z2, z3, z4, z5, z6, z7, z8⟩ := hL
        refine ⟨z1, by rw [(d7 l (by omega)).1, (c12 l (by omega)).1]; exact z2, by rw [(d7 l (by omega)).2.1, (c12 l (by omega)).2.1]; exact z3, by rw [(d7 l (by omega)).2.2, (c12 l (by omega)).2.2]; exact z4, z5, z6, z7, fun p hp => ?_⟩
        rw [(d6 (b + p) (by omega)).1, c9 (b + p) (by omega)]
        exact z8 p hp
      have hS2 : LvS M2 b n (Sx n T) := by
        intro p hp
        rw [(d6 (b + p) (by omega)).2.1, c10 (b + p) (by omega)]
        exact hS p hp
      obtain ⟨M3, o, e1, e2, e3, e4⟩ := fromBelow_ok hL2 hS2 hR (fun k hk => by rw [(d6 (b + n + k) (by omega)).2.2, c11 (b + n + k) (by omega)]; exact h17 k hk) hl11 (by rw [(d7 (l + 1) (by omega)).1, (c12 (l + 1) (by omega)).1]; exact hL1.2.1) (by rw [(d7 (l + 1) (by omega)).2.1, (c12 (l + 1) (by omega)).2.1]; exact hL1.2.2.1) hL1.2.2.2.2.1 hL1.2.2.2.2.2.1 d3 d4
      obtain ⟨F', rfl⟩ : ∃ F', F = F' + 1 := ⟨F - 1, by omega⟩
      refine ⟨F', M3, o, ?_, by omega, e2, e3, ?_, fun j hj => ?_, fun i hi => ?_⟩
      · rw [fX4_sort_41_s, nI_add1, e10, if_neg (fun g => by have := (nI_le_iff (by omega) (by omega)).mp g; omega), if_pos (xin_of hl11 (by omega)), if_pos (xin_of hl11 (by omega)), nI_clamp (by omega), q1, q2, if_neg (fun g => hmK ((nI_le_iff (by omega) (by omega)).mp g)), c1, Option.bind_some, d1, nI_sub1, fX4_sort_86_s, if_neg (nI_pos (by omega)), e1, Option.bind_some, nI_addm1]
      · exact (c8.tr d5).tr (e4.mono (fun k hk => by simp at hk ⊢; omega))
      · rw [e4 15 (by decide), e4 16 (by decide), e4 17 (by decide), (d6 j (by omega)).1, (d6 j (by omega)).2.1, (d6 j (by omega)).2.2, c9 j (by omega), c11 j (by omega), c10 j (by omega)]
        exact ⟨rfl, rfl, rfl⟩
      · rw [e4 18 (by decide), e4 19 (by decide), e4 20 (by decide), (d7 i (by omega)).1, (d7 i (by omega)).2.1, (d7 i (by omega)).2.2, (c12 i (by omega)).1, (c12 i (by omega)).2.1, (c12 i (by omega)).2.2]
        exact ⟨rfl, rfl, rfl⟩
theorem sort_ok {M : xM} {n : Nat} {T : Nat → Nat} (hn : n ≤ 408) (hT : ∀ p, p < n → M 5 p = nI (T p) ∧ T p < 1008) : ∃ (M2 : xM) (o : Nat → Option Nat), fX4_sort (nI n) M = some M2 ∧ isSA n T o ∧ (∀ j, j < n → M2 14 j = enc (o j)) ∧ Fr [14, 15, 16, 17, 18, 19, 20, 21, 22, 23, 24] M M2 := by
  obtain ⟨M1, h1⟩ : ∃ M1, M1 = xcp M 5 15 0 0 (nI n) := ⟨_, rfl⟩
  obtain ⟨M2, h2⟩ : ∃ M2, M2 = xs1 M1 18 (0 : Int32).toNatClampNeg 0 := ⟨_, rfl⟩
  obtain ⟨M3, h3⟩ : ∃ M3, M3 = xs1 M2 19 (0 : Int32).toNatClampNeg (nI n) := ⟨_, rfl⟩
  obtain ⟨M4, h4⟩ : ∃ M4, M4 = xs1 M3 20 (0 : Int32).toNatClampNeg 1008 := ⟨_, rfl⟩
  have q0 : (0 : Int32).toNatClampNeg = 0 := by decide
  have hL : Lv M4 0 0 n 1008 T := by
    refine ⟨by omega, ?_, ?_, ?_, by omega, hn, by omega, fun p hp => ⟨?_, (hT p hp).2⟩⟩
    · rw [h4, xs1_ne (by decide), h3, xs1_ne (by decide), h2, q0, xs1_self]; rfl
    · rw [h4, xs1_ne (by decide), h3, q0, xs1_self]
    · rw [h4, q0, xs1_self]; rfl
    · rw [h4, xs1_ne (by decide), h3, xs1_ne (by decide), h2, xs1_ne (by decide), h1, xcp_cell, q0, nI_clamp (by omega), if_pos (by omega), show 0 + (0 + p - 0) = p by omega]
      exact (hT p hp).1
  obtain ⟨m', K', T', tn', M5, c1, c2, c3, c4, c5, c6, c7, c8, -⟩ := below_ok hL (by omega) (by omega)
  obtain ⟨F, M6, o, d1, d2, d3, d4, d5, -⟩ := sort_levels n 0 0 n 1008 m' K' 4096 T T' tn' M5 (Nat.le_refl _) (by omega) c2 c3 c4 c5 c6 c7 (by omega) (by rw [Nat.pow_zero]; omega)
  obtain ⟨F', rfl⟩ : ∃ F', F = F' + 1 := ⟨F - 1, by omega⟩
  refine ⟨M6, o, ?_, d3, d4, ?_⟩
  · have c1' : fX4_makeLevelBelow 0 M4 = some M5 := c1
    have d1' : fX4_sort_41 4096 0 M5 = fX4_sort_86 (F' + 1) (nI 0 - 1) M6 := d1
    have z : fX4_sort_86 (F' + 1) (nI 0 - 1) M6 = some M6 := by rw [fX4_sort_86_s, if_pos ((nI_dn (by omega)).mpr rfl)]
    rw [fX4_sort_s, if_pos ((xcin_00 (by omega)).mpr ⟨by omega, by omega⟩)]
    simp only [xlt_def, ← h1, ← h2, ← h3, ← h4, c1', Option.bind_some, d1', z]
  · have g1 : Fr [14, 15, 16, 17, 18, 19, 20, 21, 22, 23, 24] M M4 := by
      rw [h4, h3, h2, h1]
      exact ((((Fr.st (by decide)).tr (Fr.s1 (by decide))).tr (Fr.s1 (by decide))).tr (Fr.s1 (by decide)))
    exact (g1.tr c8).tr d5
