theorem xcin_10 {k n0 n1 : Nat} (hk : k < 2147483648) : xcin 1 0 (nI k) n0 n1 ↔ 1 + k ≤ n0 ∧ k ≤ n1 := by
  unfold xcin
  have a1 : ¬ (1 : Int32) < 0 := by decide
  have a2 : ¬ (0 : Int32) < 0 := by decide
  have a3 : (1 : Int32).toNatClampNeg = 1 := by decide
  have a4 : (0 : Int32).toNatClampNeg = 0 := by decide
  rw [a3, a4, nI_clamp hk, Nat.zero_add]
  exact ⟨fun h => ⟨h.2.2.2.1, h.2.2.2.2⟩, fun h => ⟨a1, a2, nI_pos hk, h.1, h.2⟩⟩
theorem xcin_00 {k n0 n1 : Nat} (hk : k < 2147483648) : xcin 0 0 (nI k) n0 n1 ↔ k ≤ n0 ∧ k ≤ n1 := by
  unfold xcin
  have a2 : ¬ (0 : Int32) < 0 := by decide
  have a4 : (0 : Int32).toNatClampNeg = 0 := by decide
  rw [a4, nI_clamp hk, Nat.zero_add]
  exact ⟨fun h => ⟨h.2.2.2.1, h.2.2.2.2⟩, fun h => ⟨a2, a2, nI_pos hk, h.1, h.2⟩⟩
theorem xcin_nI {a b k n0 n1 : Nat} (ha : a < 2147483648) (hb : b < 2147483648) (hk : k < 2147483648) : xcin (nI a) (nI b) (nI k) n0 n1 ↔ a + k ≤ n0 ∧ b + k ≤ n1 := by
  unfold xcin
  rw [nI_clamp ha, nI_clamp hb, nI_clamp hk]
  exact ⟨fun h => ⟨h.2.2.2.1, h.2.2.2.2⟩, fun h => ⟨nI_pos ha, nI_pos hb, nI_pos hk, h.1, h.2⟩⟩
theorem xcp_cell {M : xM} {k0 k1 : Nat} {sp dp n : Int32} (j : Nat) : xcp M k0 k1 sp dp n k1 j = if dp.toNatClampNeg ≤ j ∧ j < dp.toNatClampNeg + n.toNatClampNeg then M k0 (sp.toNatClampNeg + (j - dp.toNatClampNeg)) else M k1 j := by
  unfold xcp
  rw [xst_self]
  rfl
theorem xcp_ne {M : xM} {k0 k1 a : Nat} {sp dp n : Int32} (h : a ≠ k1) : xcp M k0 k1 sp dp n a = M a := by
  unfold xcp
  rw [xst_ne _ _ h]
theorem fill23 {e : Nat} {v : Int32} (he : e ≤ 1009) : ∀ (d i fuel : Nat) (M : xM), i + d = e → d < fuel → ∃ M2, fJ7_fill_fda19_23_10 fuel (nI e) v (nI i) M = some M2 ∧ (∀ j, M2 23 j = if i ≤ j ∧ j < e then v else M 23 j) ∧ Fr [23] M M2 := by
  intro d
  induction d with
  | zero =>
    intro i fuel M hi hf
    obtain ⟨f, rfl⟩ : ∃ f, fuel = f + 1 := ⟨fuel - 1, by omega⟩
    refine ⟨M, ?_, fun j => ?_, Fr.rf⟩
    · simp (disch := omega) only [fJ7_fill_fda19_23_10_s, nI_le_iff, if_pos, if_true]
    · rw [if_neg (by omega)]
  | succ d ih =>
    intro i fuel M hi hf
    obtain ⟨f, rfl⟩ : ∃ f, fuel = f + 1 := ⟨fuel - 1, by omega⟩
    obtain ⟨M2, a1, a2, a3⟩ := ih (i + 1) f (xs1 M 23 i v) (by omega) (by omega)
    refine ⟨M2, ?_, fun j => ?_, (Fr.s1 (by decide)).tr a3⟩
    · simp (disch := omega) only [fJ7_fill_fda19_23_10_s, nI_le_iff, if_pos, if_neg, if_true, if_false, xin_nI, nI_clamp, xlt_def, nI_add1, a1]
    · rw [a2, xs1_cell]
      by_cases e1 : j = i
      · subst e1
        rw [if_neg (by omega), if_pos rfl, if_pos (by omega)]
      · rw [if_neg e1]
        by_cases e2 : i + 1 ≤ j ∧ j < e
        · rw [if_pos e2, if_pos (by omega)]
        · rw [if_neg e2, if_neg (by omega)]
theorem fill14 {e : Nat} {v : Int32} (he : e ≤ 408) : ∀ (d i fuel : Nat) (M : xM), i + d = e → d < fuel → ∃ M2, fJ7_fill_fda19_14_10 fuel (nI e) v (nI i) M = some M2 ∧ (∀ j, M2 14 j = if i ≤ j ∧ j < e then v else M 14 j) ∧ Fr [14] M M2 := by
  intro d
  induction d with
  | zero =>
    intro i fuel M hi hf
    obtain ⟨f, rfl⟩ : ∃ f, fuel = f + 1 := ⟨fuel - 1, by omega⟩
    refine ⟨M, ?_, fun j => ?_, Fr.rf⟩
    · simp (disch := omega) only [fJ7_fill_fda19_14_10_s, nI_le_iff, if_pos, if_true]
    · rw [if_neg (by omega)]
  | succ d ih =>
    intro i fuel M hi hf
    obtain ⟨f, rfl⟩ : ∃ f, fuel = f + 1 := ⟨fuel - 1, by omega⟩
    obtain ⟨M2, a1, a2, a3⟩ := ih (i + 1) f (xs1 M 14 i v) (by omega) (by omega)
    refine ⟨M2, ?_, fun j => ?_, (Fr.s1 (by decide)).tr a3⟩
    · simp (disch := omega) only [fJ7_fill_fda19_14_10_s, nI_le_iff, if_pos, if_neg, if_true, if_false, xin_nI, nI_clamp, xlt_def, nI_add1, a1]
    · rw [a2, xs1_cell]
      by_cases e1 : j = i
      · subst e1
        rw [if_neg (by omega), if_pos rfl, if_pos (by omega)]
      · rw [if_neg e1]
        by_cases e2 : i + 1 ≤ j ∧ j < e
        · rw [if_pos e2, if_pos (by omega)]
        · rw [if_neg e2, if_neg (by omega)]
theorem zeroI : (0 : Int32) = nI 0 := rfl
theorem fill23_ok {e : Nat} (he : e ≤ 1009) (M : xM) : ∃ M2, fJ7_fill_fda19_23 0 (nI e) 0 M = some M2 ∧ (∀ j, M2 23 j = if j < e then 0 else M 23 j) ∧ Fr [23] M M2 := by
  obtain ⟨M2, a1, a2, a3⟩ := fill23 (v := 0) he e 0 4096 M (by omega) (by omega)
  refine ⟨M2, ?_, fun j => ?_, a3⟩
  · have e1 : (1009 : Int32) = nI 1009 := rfl
    have e2 : ((0 : Int32) ≤ 0) := by decide
    rw [fJ7_fill_fda19_23_s]
    have h1 : fJ7_rangeCheck_23922 1009 0 (nI e) M = some M := by
      rw [fJ7_rangeCheck_23922_s, if_pos (show (0 : Int32) ≤ nI e by rw [zeroI, nI_le_iff (by omega) (by omega)]; omega), if_pos e2, e1, if_pos ((nI_le_iff (by omega) (by omega)).mpr he)]
    rw [h1, Option.bind_some]
    exact a1
  · rw [a2]
    by_cases h : j < e
    · rw [if_pos ⟨by omega, h⟩, if_pos h]
    · rw [if_neg (by omega), if_neg h]
theorem fill14_ok {e : Nat} (he : e ≤ 408) (M : xM) : ∃ M2, fJ7_fill_fda19_14 0 (nI e) (-1) M = some M2 ∧ (∀ j, M2 14 j = if j < e then -1 else M 14 j) ∧ Fr [14] M M2 := by
  obtain ⟨M2, a1, a2, a3⟩ := fill14 (v := -1) he e 0 4096 M (by omega) (by omega)
  refine ⟨M2, ?_, fun j => ?_, a3⟩
  · have e1 : (408 : Int32) = nI 408 := rfl
    have e2 : ((0 : Int32) ≤ 0) := by decide
    rw [fJ7_fill_fda19_14_s]
    have h1 : fJ7_rangeCheck_23922 408 0 (nI e) M = some M := by
      rw [fJ7_rangeCheck_23922_s, if_pos (show (0 : Int32) ≤ nI e by rw [zeroI, nI_le_iff (by omega) (by omega)]; omega), if_pos e2, e1, if_pos ((nI_le_iff (by omega) (by omega)).mpr he)]
    rw [h1, Option.bind_some]
    exact a1
  · rw [a2]
    by_cases h : j < e
    · rw [if_pos ⟨by omega, h⟩, if_pos h]
    · rw [if_neg (by omega), if_neg h]
theorem bsx_eqc (n : Nat) (T : Nat → Nat) (c : Nat) : bsx n T (c + 1) = bsx n T c + cnt (fun p => decide (T p = c)) n := by
  apply cnt_split
  intro i hi
  constructor
  · by_cases a : T i < c
    · simp [a]; omega
    · by_cases b : T i = c
      · simp [b]
      · simp [a, b]; omega
  · by_cases a : T i < c
    · simp; omega
    · simp [a]
theorem count_loop {l b n K : Nat} {T : Nat → Nat} : ∀ (d p fuel : Nat) (M : xM), p + d = n → d < fuel → Lv M l b n K T → (M 23 0 = 0 ∧ ∀ c, c < K → M 23 (c + 1) = nI (cnt (fun q => decide (T q = c)) p)) →
    ∃ M2, fX4_countLetters_19 fuel (nI l) (nI p) M = fX4_countLetters_59 (nI l) M2 ∧ (M2 23 0 = 0 ∧ ∀ c, c < K → M2 23 (c + 1) = nI (cnt (fun q => decide (T q = c)) n)) ∧ Fr [23] M M2 := by
  intro d
  induction d with
  | zero =>
    intro p fuel M hp hf hL hC
    obtain ⟨f, rfl⟩ : ∃ f, fuel = f + 1 := ⟨fuel - 1, by omega⟩
    obtain ⟨hl, hb, hn, hK, h1, h2, h3, hT⟩ := id hL
    have hpn : p = n := by omega
    subst hpn
    refine ⟨M, ?_, hC, Fr.rf⟩
    simp (disch := omega) only [fX4_countLetters_19_s, xin_nI, nI_clamp, hn, nI_le_iff, if_pos, if_true]
  | succ d ih =>
    intro p fuel M hp hf hL hC
    obtain ⟨f, rfl⟩ : ∃ f, fuel = f + 1 := ⟨fuel - 1, by omega⟩
    obtain ⟨hl, hb, hn, hK, h1, h2, h3, hT⟩ := id hL
    obtain ⟨hT1, hT2⟩ := hT p (by omega)
    have hv := hC.2 (T p) hT2
    obtain ⟨M2, a1, a2, a3⟩ := ih (p + 1) f (xs1 M 23 (T p + 1) (nI (cnt (fun q => decide (T q = T p)) p + 1))) (by omega) (by omega) (hL.of (xs1_ne (by decide)) (xs1_ne (by decide)) (xs1_ne (by decide)) (xs1_ne (by decide))) (by
      refine ⟨?_, fun c hc => ?_⟩
      · rw [xs1_cell, if_neg (by omega)]; exact hC.1
      · rw [xs1_cell]
        by_cases e : c = T p
        · subst e
          rw [if_pos rfl]
          congr 1
          show _ = cnt _ p + (if decide (T p = T p) = true then 1 else 0)
          rw [if_pos (by simp)]
        · rw [if_neg (by omega), hC.2 c hc]
          congr 1
          show _ = cnt _ p + (if decide (T p = c) = true then 1 else 0)
          rw [if_neg (by simp; omega)]
          rfl)
    refine ⟨M2, ?_, a2, (Fr.s1 (by decide)).tr a3⟩
    simp (disch := omega) only [fX4_countLetters_19_s, xin_nI, nI_clamp, hn, nI_le_iff, if_pos, if_neg, if_true, if_false, hb, nI_plus, hT1, nI_add1, hv, xlt_def, a1]
theorem sum_loop {l b n K : Nat} {T : Nat → Nat} : ∀ (d c fuel : Nat) (M : xM), c + d = K → d < fuel → Lv M l b n K T → ((∀ a, a ≤ c → M 23 a = nI (bsx n T a)) ∧ ∀ a, c ≤ a → a < K → M 23 (a + 1) = nI (cnt (fun q => decide (T q = a)) n)) →
    ∃ M2, fX4_countLetters_61 fuel (nI l) (nI c) M = some M2 ∧ (∀ a, a ≤ K → M2 23 a = nI (bsx n T a)) ∧ Fr [23] M M2 := by
  intro d
  induction d with
  | zero =>
    intro c fuel M hc hf hL hC
    obtain ⟨f, rfl⟩ : ∃ f, fuel = f + 1 := ⟨fuel - 1, by omega⟩
    obtain ⟨hl, hb, hn, hK, h1, h2, h3, hT⟩ := id hL
    refine ⟨M, ?_, fun a ha => hC.1 a (by omega), Fr.rf⟩
    simp (disch := omega) only [fX4_countLetters_61_s, xin_nI, nI_clamp, hK, nI_le_iff, if_pos, if_true]
  | succ d ih =>
    intro c fuel M hc hf hL hC
    obtain ⟨f, rfl⟩ : ∃ f, fuel = f + 1 := ⟨fuel - 1, by omega⟩
    obtain ⟨hl, hb, hn, hK, h1, h2, h3, hT⟩ := id hL
    have hv1 := hC.2 c (Nat.le_refl _) (by omega)
    have hv2 := hC.1 c (Nat.le_refl _)
    obtain ⟨M2, a1, a2, a3⟩ := ih (c + 1) f (xs1 M 23 (c + 1) (nI (cnt (fun q => decide (T q = c)) n + bsx n T c))) (by omega) (by omega) (hL.of (xs1_ne (by decide)) (xs1_ne (by decide)) (xs1_ne (by decide)) (xs1_ne (by decide))) (by
      refine ⟨fun a ha => ?_, fun a ha haK => ?_⟩
      · rw [xs1_cell]
        by_cases e : a = c + 1
        · subst e
          rw [if_pos rfl, bsx_eqc, Nat.add_comm]
        · rw [if_neg e]; exact hC.1 a (by omega)
      · rw [xs1_cell, if_neg (by omega)]
        exact hC.2 a (by omega) haK)
    refine ⟨M2, ?_, a2, (Fr.s1 (by decide)).tr a3⟩
    simp (disch := omega) only [fX4_countLetters_61_s, xin_nI, nI_clamp, hK, nI_le_iff, if_pos, if_neg, if_true, if_false, nI_add1, hv1, hv2, nI_plus, xlt_def, a1]
theorem Lv.fr {M M2 : xM} {l b n K : Nat} {T : Nat → Nat} {ks : List Nat} (h : Lv M l b n K T) (hF : Fr ks M M2) (h15 : 15 ∉ ks) (h18 : 18 ∉ ks) (h19 : 19 ∉ ks) (h20 : 20 ∉ ks) : Lv M2 l b n K T := h.of (hF 15 h15) (hF 18 h18) (hF 19 h19) (hF 20 h20)
theorem count_ok {M : xM} {l b n K : Nat} {T : Nat → Nat} (hL : Lv M l b n K T) : ∃ M2, fX4_countLetters (nI l) M = some M2 ∧ (∀ a, a ≤ K → M2 23 a = nI (bsx n T a)) ∧ Fr [23] M M2 := by
  obtain ⟨hl, hb, hn, hK, h1, h2, h3, hT⟩ := id hL
  obtain ⟨M1, a1, a2, a3⟩ := fill23_ok (e := K + 1) (by omega) M
  have hL1 := hL.fr a3 (by decide) (by decide) (by decide) (by decide)
  obtain ⟨M2, b1, b2, b3⟩ := count_loop n 0 4096 M1 (by omega) (by omega) hL1 ⟨by rw [a2, if_pos (by omega)], fun c hc => by rw [a2, if_pos (by omega)]; rfl⟩
  have hL2 := hL1.fr b3 (by decide) (by decide) (by decide) (by decide)
  obtain ⟨M3, c1, c2, c3⟩ := sum_loop K 0 4096 M2 (by omega) (by omega) hL2 ⟨fun a ha => by rw [show a = 0 by omega, b2.1, bsx_zero]; rfl, fun a _ ha => b2.2 a ha⟩
  refine ⟨M3, ?_, c2, (a3.tr b3).tr c3⟩
  have z1 : fX4_countLetters_19 4096 (nI l) 0 M1 = fX4_countLetters_59 (nI l) M2 := b1
  have z2 : fX4_countLetters_61 4096 (nI l) 0 M2 = some M3 := c1
  simp (disch := omega) only [fX4_countLetters_s, xin_nI, nI_clamp, hK, nI_add1, a1, Option.bind_some, z1, fX4_countLetters_59_s, z2, if_pos, if_true]
/-- INDUCED SORTING over the memory -/
theorem induce_ok {M : xM} {l b n K m : Nat} {T : Nat → Nat} {S : Nat → Bool} {sds : Nat → Nat} (hL : Lv M l b n K T) (hS : LvS M b n S) (hSd : ∀ p, p < n → (S p = true ↔ slt n T p (p + 1))) (hsd : seeds n (LMx n S) m sds) (hm : m ≤ 408) (hsm : ∀ i, i < m → M 21 i = nI (sds i)) :
    ∃ M2, fX4_induce (nI l) (nI m) M = some M2 ∧ (∀ j, j < n → M2 14 j = enc (indx n T S m sds j)) ∧ Fr [14, 23, 24] M M2 := by
  obtain ⟨hl, hb, hn, hK, h1, h2, h3, hT⟩ := id hL
  have hTK : ∀ p, p < n → T p < K := fun p hp => (hT p hp).2
  obtain ⟨s1, s2, s3, s4, s5, s6⟩ := ind_safe hSd hTK hsd
  obtain ⟨M1, a1, a2, a3⟩ := count_ok hL
  have hL1 := hL.fr a3 (by decide) (by decide) (by decide) (by decide)
  obtain ⟨M2, b1, b2, b3⟩ := fill14_ok h2 M1
  have hL2 := hL1.fr b3 (by decide) (by decide) (by decide) (by decide)
  have hst2 : ∀ a, a ≤ K → M2 23 a = nI (bsx n T a) := fun a ha => by rw [b3 23 (by decide)]; exact a2 a ha
  -- the seeds
  have cc : ∀ (N : xM), (∀ a, a ≤ K → N 23 a = nI (bsx n T a)) → ∀ c, c < K → xcp N 23 24 1 0 (nI K) 24 c = nI (bsx n T (c + 1)) := by
    intro N hN c hc
    rw [xcp_cell, nI_clamp (by omega)]
    have q1 : (1 : Int32).toNatClampNeg = 1 := by decide
    have q0 : (0 : Int32).toNatClampNeg = 0 := by decide
    rw [q1, q0, if_pos (by omega), show 1 + (c - 0) = c + 1 by omega]
    exact hN (c + 1) (by omega)
  have cc0 : ∀ (N : xM), (∀ a, a ≤ K → N 23 a = nI (bsx n T a)) → ∀ c, c < K → xcp N 23 24 0 0 (nI K) 24 c = nI (bsx n T c) := by
    intro N hN c hc
    rw [xcp_cell, nI_clamp (by omega)]
    have q0 : (0 : Int32).toNatClampNeg = 0 := by decide
    rw [q0, if_pos (by omega), show 0 + (c - 0) = c by omega]
    exact hN c (by omega)
  have hR3 : Rep (xcp M2 23 24 1 0 (nI K)) n K (sedx T n m sds (m - m)) := by
    rw [Nat.sub_self]
    refine ⟨fun j hj => ?_, fun c hc => cc M2 hst2 c hc⟩
    rw [xcp_ne (by decide), b2, if_pos hj]
    rfl
  have hF3 : Fr [24] M2 (xcp M2 23 24 1 0 (nI K)) := Fr.st (by decide)
  have hL3 := hL2.fr hF3 (by decide) (by decide) (by decide) (by decide)
  obtain ⟨M4, d1, d2, d3⟩ := seeds_loop hm (fun i hi => (hsd.1 i hi).1) s1 m 4096 _ (by omega) (Nat.le_refl _) hL3 hR3 (fun i hi => by rw [hF3 21 (by decide), b3 21 (by decide), a3 21 (by decide)]; exact hsm i hi)
  have hL4 := hL3.fr d3 (by decide) (by decide) (by decide) (by decide)
  have hS4 : LvS M4 b n S := hS.of (by rw [d3 16 (by decide), hF3 16 (by decide), b3 16 (by decide), a3 16 (by decide)])
  have hst4 : ∀ a, a ≤ K → M4 23 a = nI (bsx n T a) := fun a ha => by rw [d3 23 (by decide), hF3 23 (by decide)]; exact hst2 a ha
  -- what falls
  have hF5 : Fr [24] M4 (xcp M4 23 24 0 0 (nI K)) := Fr.st (by decide)
  have hL5 := hL4.fr hF5 (by decide) (by decide) (by decide) (by decide)
  have hS5 : LvS (xcp M4 23 24 0 0 (nI K)) b n S := hS4.of (hF5 16 (by decide))
  have hR5 : Rep (xcp M4 23 24 0 0 (nI K)) n K (indA n T m sds) := ⟨fun j hj => by rw [xcp_ne (by decide)]; exact d2.1 j hj, fun c hc => cc0 M4 hst4 c hc⟩
  have hfall : ∃ M6, fX4_induceFalling (nI l) M4 = some M6 ∧ Rep M6 n K (indC n T S m sds) ∧ Fr [14, 24] M4 M6 := by
    have hF5' : Fr [14, 24] M4 (xcp M4 23 24 0 0 (nI K)) := hF5.mono (fun k hk => by simp at hk ⊢; exact Or.inr hk)
    by_cases hn0 : n = 0
    · obtain ⟨M6, e1, e2, e3⟩ := fall_loop (s0 := indB n T m sds) s3 s4 n 0 4096 _ (by omega) (by omega) hL5 hS5 (by unfold indB; rw [if_pos hn0]; exact hR5)
      refine ⟨M6, ?_, e2, hF5'.tr e3⟩
      have z1 : fX4_induceFalling_43 4096 (nI l) 0 (xcp M4 23 24 0 0 (nI K)) = some M6 := e1
      have z2 : nI n ≤ 0 := by rw [hn0]; decide
      have q19 := hL5.2.2.1
      have q20 := hL4.2.2.2.1
      simp (disch := omega) only [fX4_induceFalling_s, xin_nI, nI_clamp, q20, xcin_00, xlt_def, q19, z2, if_pos, if_true, fX4_induceFalling_41_s, z1, and_self]
    · have hlast := s2 (by omega)
      have hTn := hTK (n - 1) (by omega)
      have hput := putFirst_ok hL5 (show n - 1 < n by omega) (hR5.2 _ hTn) (by omega)
      have hR6 := hR5.put ((indA n T m sds).2 (T (n - 1))) (n - 1) (T (n - 1)) ((indA n T m sds).2 (T (n - 1)) + 1)
      have hB : indB n T m sds = (fup (indA n T m sds).1 ((indA n T m sds).2 (T (n - 1))) (some (n - 1)), fup (indA n T m sds).2 (T (n - 1)) ((indA n T m sds).2 (T (n - 1)) + 1)) := by
        unfold indB; rw [if_neg hn0]; rfl
      rw [← hB] at hR6
      obtain ⟨M6, e1, e2, e3⟩ := fall_loop (s0 := indB n T m sds) s3 s4 n 0 4096 _ (by omega) (by omega) (hL5.pw _ _ _ _) (hS5.pw _ _ _ _) hR6
      refine ⟨M6, ?_, e2, (hF5'.tr (Fr.pw _ _ _ _)).tr e3⟩
      have z1 : fX4_induceFalling_43 4096 (nI l) 0 (pw (xcp M4 23 24 0 0 (nI K)) ((indA n T m sds).2 (T (n - 1))) (n - 1) (T (n - 1)) ((indA n T m sds).2 (T (n - 1)) + 1)) = some M6 := e1
      have z2 : ¬ nI n ≤ 0 := fun g => hn0 ((nI_le0 (by omega)).mp g)
      have z3 : nI n - 1 = nI (n - 1) := by
        have := nI_sub1 (n - 1)
        rw [show n - 1 + 1 = n by omega] at this
        exact this
      have q19 := hL5.2.2.1
      have q20 := hL4.2.2.2.1
      simp (disch := omega) only [fX4_induceFalling_s, xin_nI, nI_clamp, q20, xcin_00, xlt_def, q19, z2, z3, if_pos, if_neg, if_true, if_false, hput, Option.bind_some, fX4_induceFalling_41_s, z1, and_self]
  obtain ⟨M6, e1, e2, e3⟩ := hfall
  have hL6 := hL4.fr e3 (by decide) (by decide) (by decide) (by decide)
  have hS6 : LvS M6 b n S := hS4.of (e3 16 (by decide))
  have hst6 : ∀ a, a ≤ K → M6 23 a = nI (bsx n T a) := fun a ha => by rw [e3 23 (by decide)]; exact hst4 a ha
  -- what rises
  have hF7 : Fr [24] M6 (xcp M6 23 24 1 0 (nI K)) := Fr.st (by decide)
  have hL7 := hL6.fr hF7 (by decide) (by decide) (by decide) (by decide)
  have hS7 : LvS (xcp M6 23 24 1 0 (nI K)) b n S := hS6.of (hF7 16 (by decide))
  have hR7 : Rep (xcp M6 23 24 1 0 (nI K)) n K (risex T S n ((indC n T S m sds).1, fun c => bsx n T (c + 1)) (n - n)) := by
    rw [Nat.sub_self]
    exact ⟨fun j hj => by rw [xcp_ne (by decide)]; exact e2.1 j hj, fun c hc => cc M6 hst6 c hc⟩
  obtain ⟨M8, f1, f2, f3⟩ := rise_loop (s0 := ((indC n T S m sds).1, fun c => bsx n T (c + 1))) s5 s6 n 4096 _ (Nat.le_refl _) (by omega) hL7 hS7 hR7
  refine ⟨M8, ?_, f2.1, ?_⟩
  · have q20 := hL2.2.2.2.1
    have q20' := hL6.2.2.2.1
    have q19 := hL1.2.2.1
    have q19' := hL7.2.2.1
    have w1 : fX4_putSeeds (nI l) (nI m) M2 = some M4 := by
      simp (disch := omega) only [fX4_putSeeds_s, xin_nI, nI_clamp, q20, xcin_10, xlt_def, if_pos, if_true, d1, and_self]
    have w2 : fX4_induceRising (nI l) M6 = some M8 := by
      simp (disch := omega) only [fX4_induceRising_s, xin_nI, nI_clamp, q20', xcin_10, xlt_def, q19', if_pos, if_true, f1, and_self]
    simp (disch := omega) only [fX4_induce_s, a1, Option.bind_some, xin_nI, nI_clamp, q19, b1, w1, e1, w2, if_pos, if_true]
  · have g1 : Fr [14, 23, 24] M M1 := a3.mono (fun k hk => by simp at hk ⊢; exact Or.inr (Or.inl hk))
    have g2 : Fr [14, 23, 24] M1 M2 := b3.mono (fun k hk => by simp at hk ⊢; exact Or.inl hk)
    have g3 : Fr [14, 23, 24] M2 (xcp M2 23 24 1 0 (nI K)) := hF3.mono (fun k hk => by simp at hk ⊢; exact Or.inr (Or.inr hk))
    have g4 : Fr [14, 23, 24] (xcp M2 23 24 1 0 (nI K)) M4 := d3.mono (fun k hk => by simp at hk ⊢; omega)
    have g5 : Fr [14, 23, 24] M4 M6 := e3.mono (fun k hk => by simp at hk ⊢; omega)
    have g6 : Fr [14, 23, 24] M6 (xcp M6 23 24 1 0 (nI K)) := hF7.mono (fun k hk => by simp at hk ⊢; exact Or.inr (Or.inr hk))
    have g7 : Fr [14, 23, 24] (xcp M6 23 24 1 0 (nI K)) M8 := f3.mono (fun k hk => by simp at hk ⊢; omega)
    exact (((((g1.tr g2).tr g3).tr g4).tr g5).tr g6).tr g7
