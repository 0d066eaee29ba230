/-! THE REFERENCE'S build: COMMON of all pairs, the row by insertion -/
def wM (c : Nat) : Int32 := if c < 8 then eM c else nI (c - 8)
theorem eM_toInt : ∀ c, c < 8 → (eM c).toInt = -2 - (c : Int) := by decide
theorem wM_toInt {c : Nat} (h : c < 1008) : (wM c).toInt = if c < 8 then -2 - (c : Int) else (c : Int) - 8 := by
  unfold wM
  by_cases h8 : c < 8
  · rw [if_pos h8, if_pos h8, eM_toInt c h8]
  · rw [if_neg h8, if_neg h8, nI_toInt (by omega)]
    omega
theorem wM_neg {c : Nat} (h : c < 1008) : wM c < 0 ↔ c < 8 := by
  rw [Int32.lt_iff_toInt_lt, wM_toInt h]
  have e0 : (0 : Int32).toInt = 0 := rfl
  rw [e0]
  split <;> omega
theorem wM_nn {c : Nat} (h : c < 1008) : 0 ≤ wM c ↔ 8 ≤ c := by
  rw [Int32.le_iff_toInt_le, wM_toInt h]
  have e0 : (0 : Int32).toInt = 0 := rfl
  rw [e0]
  split <;> omega
theorem wM_eq {c d : Nat} (h : c < 1008) (h2 : d < 1008) : wM c = wM d ↔ c = d := by
  rw [← Int32.toInt_inj, wM_toInt h, wM_toInt h2]
  split <;> split <;> omega
theorem wM_le {c d : Nat} (h : c < 1008) (h2 : d < 1008) : wM d ≤ wM c ↔ (if c < 8 then (d < 8 ∧ c ≤ d) else (d < 8 ∨ d ≤ c)) := by
  rw [Int32.le_iff_toInt_le, wM_toInt h, wM_toInt h2]
  split <;> split <;> omega
def LTm (M : xM) (n : Nat) (T tx st : Nat → Nat) : Prop := M 37 6 = nI n ∧ (∀ p, p < n → M 40 p = wM (T p) ∧ M 41 p = nI (tx p)) ∧ ∀ t, t < 8 → M 42 t = nI (st t)
def LTc (M : xM) (n : Nat) (T tx st en : Nat → Nat) : Prop := M 4 4 = nI n ∧ (∀ p, p < n → M 5 p = nI (T p) ∧ M 6 p = nI (tx p)) ∧ ∀ t, t < 8 → M 7 t = nI (st t) ∧ M 8 t = nI (en t)
section REF
variable {n : Nat} {T tx st en : Nat → Nat}
theorem LTm.of {M M2 : xM} (h : LTm M n T tx st) (h37 : M2 37 6 = M 37 6) (h40 : M2 40 = M 40) (h41 : M2 41 = M 41) (h42 : M2 42 = M 42) : LTm M2 n T tx st := by
  unfold LTm
  rw [h37, h40, h41, h42]
  exact h
theorem LTc.of {M M2 : xM} (h : LTc M n T tx st en) (h4 : M2 4 4 = M 4 4) (h5 : M2 5 = M 5) (h6 : M2 6 = M 6) (h7 : M2 7 = M 7) (h8 : M2 8 = M 8) : LTc M2 n T tx st en := by
  unfold LTc
  rw [h4, h5, h6, h7, h8]
  exact h
theorem lc0 {p q : Nat} (h : ¬ (p < n ∧ q < n ∧ T p = T q ∧ 8 ≤ T p)) : lcx n T p q = 0 := by rw [lc_rec, if_neg h]
theorem lc1 {p q : Nat} (h : p < n ∧ q < n ∧ T p = T q ∧ 8 ≤ T p) : lcx n T p q = lcx n T (p + 1) (q + 1) + 1 := by rw [lc_rec, if_pos h]
theorem dp_in (hw : WFx n T tx st en) {p : Nat} (hp : p < n) (k137 : Int32 → xM → Option (Int32 × xM)) : ∀ (j fuel : Nat) (M : xM), j ≤ n → j < fuel → LTm M n T tx st → (∀ a b, p < a → a < n → b < n → M 43 (408 * a + b) = nI (lcx n T a b)) → (∀ b, j ≤ b → b < n → M 43 (408 * p + b) = nI (lcx n T p b)) →
    ∃ M2, fX9_build_148 k137 fuel (nI p) (nI j - 1) M = k137 (nI p - 1) M2 ∧ LTm M2 n T tx st ∧ (∀ a b, p ≤ a → a < n → b < n → M2 43 (408 * a + b) = nI (lcx n T a b)) ∧ Fr [43] M M2 := by
  have hn := hw.1
  intro j
  induction j with
  | zero =>
    intro fuel M hj hf hL h1 h2
    obtain ⟨f, rfl⟩ : ∃ f, fuel = f + 1 := ⟨fuel - 1, by omega⟩
    refine ⟨M, by simp (disch := omega) only [fX9_build_148_s, nI_dn, if_pos, if_true, fX9_build_226_s, nI_addm1], hL, fun a b ha hb hb2 => ?_, Fr.rf⟩
    by_cases e : a = p
    · subst e; exact h2 b (by omega) hb2
    · exact h1 a b (by omega) hb hb2
  | succ j ih =>
    intro fuel M hj hf hL h1 h2
    obtain ⟨f, rfl⟩ : ∃ f, fuel = f + 1 := ⟨fuel - 1, by omega⟩
    have hTp := (hL.2.1 p hp).1
    have hTj := (hL.2.1 j (by omega)).1
    have bp := (hw.2.1 p hp).1
    have bj := (hw.2.1 j (by omega)).1
    have step : ∀ v : Nat, v = lcx n T p j → ∃ M2, fX9_build_219 k137 (fX9_build_148 k137 f) (nI p) (nI j) (nI (408 * p + j)) (nI v) M = k137 (nI p - 1) M2 ∧ LTm M2 n T tx st ∧ (∀ a b, p ≤ a → a < n → b < n → M2 43 (408 * a + b) = nI (lcx n T a b)) ∧ Fr [43] M M2 := by
      intro v hv
      obtain ⟨M2, a1, a2, a3, a4⟩ := ih f (xs1 M 43 (408 * p + j) (nI v)) (by omega) (by omega) (hL.of (by rw [xs1_ne (by decide)]) (xs1_ne (by decide)) (xs1_ne (by decide)) (xs1_ne (by decide))) (fun a b ha han hb => by rw [xs1_cell, if_neg (by omega)]; exact h1 a b ha han hb) (fun b hb hbn => by
        rw [xs1_cell]
        by_cases e : b = j
        · subst e; rw [if_pos rfl, hv]
        · rw [if_neg (by omega)]; exact h2 b (by omega) hbn)
      refine ⟨M2, ?_, a2, a3, (Fr.s1 (by decide)).tr a4⟩
      simp (disch := omega) only [fX9_build_219_s, xin_nI, nI_clamp, if_pos, if_true, xlt_def, nI_addm1, a1]
    have e408 : (408 : Int32) = nI 408 := rfl
    by_cases c1 : T p < 8
    · obtain ⟨M2, a1, a2⟩ := step 0 (lc0 (fun g => by omega)).symm
      refine ⟨M2, ?_, a2⟩
      have z : wM (T p) < 0 := (wM_neg bp).mpr c1
      have a1' : fX9_build_219 k137 (fX9_build_148 k137 f) (nI p) (nI j) (nI (408 * p + j)) 0 M = _ := a1
      simp (disch := omega) only [fX9_build_148_s, nI_sub1, nI_lt0, if_false, xin_nI, nI_clamp, hTp, z, if_pos, if_true, fX9_build_180_s, fX9_build_181_s, e408, nI_mul, nI_plus, a1']
    · have z : ¬ wM (T p) < 0 := fun g => c1 ((wM_neg bp).mp g)
      by_cases c2 : T p = T j
      · have hc : p < n ∧ j < n ∧ T p = T j ∧ 8 ≤ T p := ⟨hp, by omega, c2, by omega⟩
        have hpe : p + 1 < n := by
          have := hw.2.1 p hp
          by_cases e : p = en (tx p)
          · rw [← e] at this; omega
          · omega
        have hje : j + 1 < n := by
          have := hw.2.1 j (by omega)
          by_cases e : j = en (tx j)
          · rw [← e] at this; omega
          · omega
        have hv := h1 (p + 1) (j + 1) (by omega) hpe hje
        obtain ⟨M2, a1, a2⟩ := step (1 + lcx n T (p + 1) (j + 1)) (by rw [lc1 hc]; omega)
        refine ⟨M2, ?_, a2⟩
        have z2 : wM (T p) = wM (T j) := by rw [c2]
        have z3 : ¬ (1 : Int32) = 0 := by decide
        have e1 : (1 : Int32) + nI (lcx n T (p + 1) (j + 1)) = nI (1 + lcx n T (p + 1) (j + 1)) := nI_plus 1 _
        have ei : 408 * (p + 1) + j + 1 = 408 * (p + 1) + (j + 1) := by omega
        rw [← ei] at hv
        simp (disch := omega) only [fX9_build_148_s, nI_sub1, nI_lt0, if_false, xin_nI, nI_clamp, hTp, hTj, z, z2, if_pos, if_true, fX9_build_181_s, z3, e408, nI_add1, nI_mul, nI_plus, hv, e1]
        rw [if_neg (by rw [← z2]; exact z)]
        exact a1
      · obtain ⟨M2, a1, a2⟩ := step 0 (lc0 (fun g => c2 g.2.2.1)).symm
        refine ⟨M2, ?_, a2⟩
        have z2 : ¬ wM (T p) = wM (T j) := fun g => c2 ((wM_eq bp bj).mp g)
        have a1' : fX9_build_219 k137 (fX9_build_148 k137 f) (nI p) (nI j) (nI (408 * p + j)) 0 M = _ := a1
        simp (disch := omega) only [fX9_build_148_s, nI_sub1, nI_lt0, if_false, xin_nI, nI_clamp, hTp, hTj, z, z2, if_pos, if_true, fX9_build_180_s, fX9_build_181_s, e408, nI_mul, nI_plus, a1']
theorem dp_out (hw : WFx n T tx st en) : ∀ (k fuel : Nat) (M : xM), k ≤ n → k < fuel → LTm M n T tx st → (∀ a b, k ≤ a → a < n → b < n → M 43 (408 * a + b) = nI (lcx n T a b)) →
    ∃ M2, fX9_build_137 fuel (nI k - 1) M = fX9_build_232 M2 ∧ LTm M2 n T tx st ∧ (∀ a b, a < n → b < n → M2 43 (408 * a + b) = nI (lcx n T a b)) ∧ Fr [43] M M2 := by
  have hn := hw.1
  intro k
  induction k with
  | zero =>
    intro fuel M hk hf hL h1
    obtain ⟨f, rfl⟩ : ∃ f, fuel = f + 1 := ⟨fuel - 1, by omega⟩
    exact ⟨M, by simp (disch := omega) only [fX9_build_137_s, nI_dn, if_pos, if_true], hL, fun a b ha hb => h1 a b (by omega) ha hb, Fr.rf⟩
  | succ k ih =>
    intro fuel M hk hf hL h1
    obtain ⟨f, rfl⟩ : ∃ f, fuel = f + 1 := ⟨fuel - 1, by omega⟩
    obtain ⟨M1, a1, a2, a3, a4⟩ := dp_in hw (show k < n by omega) (fX9_build_137 f) n 4096 M (Nat.le_refl _) (by omega) hL (fun a b ha han hb => h1 a b (by omega) han hb) (fun b hb hbn => by omega)
    obtain ⟨M2, b1, b2, b3, b4⟩ := ih f M1 (by omega) (by omega) a2 (fun a b ha han hb => a3 a b ha han hb)
    refine ⟨M2, ?_, b2, b3, a4.tr b4⟩
    have h37 := hL.1
    simp (disch := omega) only [fX9_build_137_s, nI_sub1, nI_lt0, if_false, h37, a1, b1]
def LCm (M : xM) (n : Nat) (T : Nat → Nat) : Prop := ∀ a b, a < n → b < n → M 43 (408 * a + b) = nI (lcx n T a b)
theorem common0_ok {M : xM} (hn : n ≤ 408) (h : LCm M n T) {p q : Nat} (hp : p < n) (hq : q < n) : fX9_common0 (nI p) (nI q) M = some (nI (lcx n T p q)) := by
  have e408 : (408 : Int32) = nI 408 := rfl
  have hv := h p q hp hq
  simp (disch := omega) only [fX9_common0_s, e408, nI_mul, nI_plus, xin_nI, nI_clamp, hv, if_pos, if_true]
noncomputable def lessb (n : Nat) (T : Nat → Nat) (p q : Nat) : Bool := @decide (slt n T p q) (Classical.propDecidable _)
theorem lessb_iff {p q : Nat} : lessb n T p q = true ↔ slt n T p q := by
  unfold lessb
  exact @decide_eq_true_iff _ (Classical.propDecidable _)
theorem isLess_ok {M : xM} (hw : WFx n T tx st en) (hL : LTm M n T tx st) (h : LCm M n T) {p q : Nat} (hp : p < n) (hq : q < n) (hne : p ≠ q) : fX9_isLess (nI p) (nI q) M = some (bI (lessb n T p q)) := by
  have hn := hw.1
  have a := (hw.lcn hp q).1
  have b := (hw.lcn hq p).1
  rw [lc_symm] at b
  have hc := common0_ok hn h hp hq
  have h1 := (hL.2.1 _ a).1
  have h2 := (hL.2.1 _ b).1
  have b1 := (hw.2.1 _ a).1
  have b2 := (hw.2.1 _ b).1
  have hd := hw.part hp hq hne
  have hl := hw.less hp hq
  generalize lcx n T p q = k at *
  have fin : ∀ (c : Prop) (d : Decidable c), (c ↔ ¬ slt n T p q) → (@ite (Option Int32) c d (some 0) (some 1)) = some (bI (lessb n T p q)) := by
    intro c d hcc
    by_cases g : slt n T p q
    · rw [if_neg (fun q => hcc.mp q g), lessb_iff.mpr g]; rfl
    · rw [if_pos (hcc.mpr g)]
      have : lessb n T p q = false := by
        cases hz : lessb n T p q with
        | false => rfl
        | true => exact absurd (lessb_iff.mp hz) g
      rw [this]; rfl
  rw [hl] at fin
  by_cases c1 : 8 ≤ T (p + k)
  · have z1 : 0 ≤ wM (T (p + k)) := (wM_nn b1).mpr c1
    simp (disch := omega) only [fX9_isLess_s, hc, Option.bind_some, nI_plus, xin_nI, nI_clamp, h1, h2, xlt_def, if_pos, if_true, z1, fX9_isLess_52_s]
    apply fin
    rw [wM_le b1 b2, if_neg (by omega)]
    omega
  · have z1 : ¬ 0 ≤ wM (T (p + k)) := fun g => c1 ((wM_nn b1).mp g)
    by_cases c2 : 8 ≤ T (q + k)
    · have z2 : 0 ≤ wM (T (q + k)) := (wM_nn b2).mpr c2
      simp (disch := omega) only [fX9_isLess_s, hc, Option.bind_some, nI_plus, xin_nI, nI_clamp, h1, h2, xlt_def, if_pos, if_true, if_false, z1, z2, fX9_isLess_52_s]
      apply fin
      rw [wM_le b1 b2, if_pos (by omega)]
      omega
    · have z2 : ¬ 0 ≤ wM (T (q + k)) := fun g => c2 ((wM_nn b2).mp g)
      simp (disch := omega) only [fX9_isLess_s, hc, Option.bind_some, nI_plus, xin_nI, nI_clamp, h1, h2, xlt_def, if_pos, if_true, if_false, z1, z2]
      apply fin
      rw [wM_le b2 b1, if_pos (by omega)]
      omega
/-- the first p places, in order -/
def Srt (n : Nat) (T : Nat → Nat) (o : Nat → Nat) (p : Nat) : Prop := (∀ i, i < p → o i < p) ∧ (∀ i j, i < j → j < p → slt n T (o i) (o j)) ∧ ∀ q, q < p → ∃ i, i < p ∧ o i = q
theorem ins_in (hw : WFx n T tx st en) {p : Nat} (hp : p < n) {o : Nat → Nat} (ho : Srt n T o p) (k234 : Int32 → xM → Option (Int32 × xM)) : ∀ (k fuel : Nat) (M : xM), k ≤ p → k < fuel → LTm M n T tx st → LCm M n T → (∀ i, i < k → M 44 i = nI (o i)) → (∀ i, k < i → i ≤ p → M 44 i = nI (o (i - 1))) → (∀ i, k ≤ i → i < p → slt n T p (o i)) →
    ∃ (M2 : xM) (o2 : Nat → Nat), fX9_build_244 k234 fuel (nI p) (nI k) M = k234 (nI (p + 1)) M2 ∧ Srt n T o2 (p + 1) ∧ (∀ i, i < p + 1 → M2 44 i = nI (o2 i)) ∧ Fr [44] M M2 := by
  have hn := hw.1
  -- the place is found
  have put : ∀ (k : Nat) (M : xM), k ≤ p → (∀ i, i < k → M 44 i = nI (o i)) → (∀ i, k < i → i ≤ p → M 44 i = nI (o (i - 1))) → (∀ i, k ≤ i → i < p → slt n T p (o i)) → (0 < k → slt n T (o (k - 1)) p) →
      ∃ (M2 : xM) (o2 : Nat → Nat), fX9_build_284 k234 (nI p) (nI k) M = k234 (nI (p + 1)) M2 ∧ Srt n T o2 (p + 1) ∧ (∀ i, i < p + 1 → M2 44 i = nI (o2 i)) ∧ Fr [44] M M2 := by
    intro k M hk h1 h2 h3 h4
    refine ⟨xs1 M 44 k (nI p), fun i => if i < k then o i else if i = k then p else o (i - 1), ?_, ⟨fun i hi => ?_, fun i j hij hj => ?_, fun q hq => ?_⟩, fun i hi => ?_, Fr.s1 (by decide)⟩
    · simp (disch := omega) only [fX9_build_284_s, xin_nI, nI_clamp, if_pos, if_true, xlt_def, nI_add1]
    · show (if i < k then o i else if i = k then p else o (i - 1)) < p + 1
      by_cases a : i < k
      · rw [if_pos a]; have := ho.1 i (by omega); omega
      · rw [if_neg a]
        by_cases b : i = k
        · rw [if_pos b]; omega
        · rw [if_neg b]; have := ho.1 (i - 1) (by omega); omega
    · show slt n T (if i < k then o i else if i = k then p else o (i - 1)) (if j < k then o j else if j = k then p else o (j - 1))
      by_cases a : j < k
      · rw [if_pos (by omega), if_pos a]; exact ho.2.1 i j hij (by omega)
      · rw [if_neg a]
        by_cases b : j = k
        · rw [if_pos b, if_pos (by omega)]
          have g := h4 (by omega)
          by_cases e : i = k - 1
          · rw [e]; exact g
          · exact slt_trans (ho.2.1 i (k - 1) (by omega) (by omega)) g
        · rw [if_neg b]
          by_cases c : i < k
          · rw [if_pos c]; exact ho.2.1 i (j - 1) (by omega) (by omega)
          · rw [if_neg c]
            by_cases d : i = k
            · rw [if_pos d]; exact h3 (j - 1) (by omega) (by omega)
            · rw [if_neg d]; exact ho.2.1 (i - 1) (j - 1) (by omega) (by omega)
    · by_cases e : q = p
      · refine ⟨k, by omega, ?_⟩
        show (if k < k then o k else if k = k then p else o (k - 1)) = q
        rw [if_neg (by omega), if_pos rfl, e]
      · obtain ⟨i, hi, hq2⟩ := ho.2.2 q (by omega)
        by_cases a : i < k
        · refine ⟨i, by omega, ?_⟩
          show (if i < k then o i else _) = q
          rw [if_pos a]; exact hq2
        · refine ⟨i + 1, by omega, ?_⟩
          show (if i + 1 < k then o (i + 1) else if i + 1 = k then p else o (i + 1 - 1)) = q
          rw [if_neg (by omega), if_neg (by omega), Nat.add_sub_cancel]; exact hq2
    · show _ = nI (if i < k then o i else if i = k then p else o (i - 1))
      rw [xs1_cell]
      by_cases a : i < k
      · rw [if_neg (by omega), if_pos a]; exact h1 i a
      · rw [if_neg a]
        by_cases b : i = k
        · rw [if_pos b, if_pos b]
        · rw [if_neg b, if_neg b]; exact h2 i (by omega) (by omega)
  intro k
  induction k with
  | zero =>
    intro fuel M hk hf hL hC h1 h2 h3
    obtain ⟨f, rfl⟩ : ∃ f, fuel = f + 1 := ⟨fuel - 1, by omega⟩
    obtain ⟨M2, o2, a1, a2⟩ := put 0 M hk h1 h2 h3 (fun h => by omega)
    refine ⟨M2, o2, ?_, a2⟩
    have z : nI 0 ≤ 0 := by decide
    rw [fX9_build_244_s, if_pos z]
    exact a1
  | succ k ih =>
    intro fuel M hk hf hL hC h1 h2 h3
    obtain ⟨f, rfl⟩ : ∃ f, fuel = f + 1 := ⟨fuel - 1, by omega⟩
    have hok := ho.1 k (by omega)
    have hr := h1 k (by omega)
    have hless := isLess_ok hw hL hC hp (show o k < n by omega) (by omega)
    have z : ¬ nI (k + 1) ≤ 0 := fun g => by have := (nI_le0 (by omega)).mp g; omega
    by_cases hs : slt n T p (o k)
    · obtain ⟨M2, o2, a1, a2, a3, a4⟩ := ih f (xs1 M 44 (k + 1) (nI (o k))) (by omega) (by omega) (hL.of (by rw [xs1_ne (by decide)]) (xs1_ne (by decide)) (xs1_ne (by decide)) (xs1_ne (by decide))) (fun a b ha hb => by rw [xs1_ne (by decide)]; exact hC a b ha hb) (fun i hi => by rw [xs1_cell, if_neg (by omega)]; exact h1 i (by omega)) (fun i hi hip => by
        rw [xs1_cell]
        by_cases e : i = k + 1
        · rw [if_pos e, e, Nat.add_sub_cancel]
        · rw [if_neg e]; exact h2 i (by omega) hip) (fun i hi hip => by
        by_cases e : i = k
        · rw [e]; exact hs
        · exact h3 i (by omega) hip)
      refine ⟨M2, o2, ?_, a2, a3, (Fr.s1 (by decide)).tr a4⟩
      rw [lessb_iff.mpr hs] at hless
      have z1 : ¬ bI true = 0 := by decide
      simp (disch := omega) only [fX9_build_244_s, z, if_false, nI_sub1, xin_nI, nI_clamp, hr, hless, Option.bind_some, z1, if_pos, if_true, xlt_def, nI_addm1, a1]
    · have hs2 : slt n T (o k) p := by
        rcases slt_total (T := T) (show p ≤ n by omega) (show o k ≤ n by omega) (by omega) with g | g
        · exact absurd g hs
        · exact g
      obtain ⟨M2, o2, a1, a2⟩ := put (k + 1) M hk h1 h2 h3 (fun _ => by rw [Nat.add_sub_cancel]; exact hs2)
      refine ⟨M2, o2, ?_, a2⟩
      have e : lessb n T p (o k) = false := by
        cases hz : lessb n T p (o k) with
        | false => rfl
        | true => exact absurd (lessb_iff.mp hz) hs
      rw [e] at hless
      have z1 : bI false = 0 := rfl
      simp (disch := omega) only [fX9_build_244_s, z, if_false, nI_sub1, xin_nI, nI_clamp, hr, hless, Option.bind_some, z1, if_pos, if_true, a1]
theorem ins_out (hw : WFx n T tx st en) : ∀ (d p fuel : Nat) (M : xM) (o : Nat → Nat), p + d = n → d < fuel → LTm M n T tx st → LCm M n T → Srt n T o p → (∀ i, i < p → M 44 i = nI (o i)) →
    ∃ (M2 : xM) (o2 : Nat → Nat), fX9_build_234 fuel (nI p) M = fX9_build_297 M2 ∧ LTm M2 n T tx st ∧ LCm M2 n T ∧ Srt n T o2 n ∧ (∀ i, i < n → M2 44 i = nI (o2 i)) ∧ Fr [44] M M2 := by
  have hn := hw.1
  intro d
  induction d with
  | zero =>
    intro p fuel M o hp hf hL hC ho h1
    obtain ⟨f, rfl⟩ : ∃ f, fuel = f + 1 := ⟨fuel - 1, by omega⟩
    have : p = n := by omega
    subst this
    have h37 := hL.1
    exact ⟨M, o, by simp (disch := omega) only [fX9_build_234_s, h37, nI_le_iff, if_pos, if_true], hL, hC, ho, h1, Fr.rf⟩
  | succ d ih =>
    intro p fuel M o hp hf hL hC ho h1
    obtain ⟨f, rfl⟩ : ∃ f, fuel = f + 1 := ⟨fuel - 1, by omega⟩
    obtain ⟨M1, o1, a1, a2, a3, a4⟩ := ins_in hw (show p < n by omega) ho (fX9_build_234 f) p 4096 M (Nat.le_refl _) (by omega) hL hC h1 (fun i hi hip => by omega) (fun i hi hip => by omega)
    have hL1 : LTm M1 n T tx st := hL.of (by rw [a4 37 (by decide)]) (a4 40 (by decide)) (a4 41 (by decide)) (a4 42 (by decide))
    have hC1 : LCm M1 n T := fun a b ha hb => by rw [a4 43 (by decide)]; exact hC a b ha hb
    obtain ⟨M2, o2, b1, b2, b3, b4, b5, b6⟩ := ih (p + 1) f M1 o1 (by omega) (by omega) hL1 hC1 a2 a3
    refine ⟨M2, o2, ?_, b2, b3, b4, b5, a4.tr b6⟩
    have h37 := hL.1
    simp (disch := omega) only [fX9_build_234_s, h37, nI_le_iff, if_neg, if_false, a1, b1]
end REF
