/-! RUNS of the row: REPEATS; the class's longest stretch; the reference's tellStretch -/
def Run (n : Nat) (T SA : Nat → Nat) (l a b : Nat) : Prop := a < b ∧ b ≤ n ∧ (a = 0 ∨ bes n T SA a < l) ∧ (b = n ∨ bes n T SA b < l) ∧ ∀ j, a < j → j < b → l ≤ bes n T SA j
section RUN
variable {n : Nat} {T tx st en SA rk : Nat → Nat} {cp : Nat → Option Nat} {cl : Nat → Nat} {M : xM}
theorem lc_rng (hw : WFx n T tx st en) (hP : PM n T SA rk) {i l : Nat} : ∀ d, i + (d + 1) < n → (l ≤ lcx n T (SA i) (SA (i + (d + 1))) ↔ ∀ k, i < k → k ≤ i + (d + 1) → l ≤ bes n T SA k) := by
  intro d
  induction d with
  | zero =>
    intro h
    have e : bes n T SA (i + 1) = lcx n T (SA i) (SA (i + 1)) := by rw [bes_eq (by omega), Nat.add_sub_cancel, lc_symm]
    constructor
    · intro g k h1 h2
      rw [show k = i + 1 by omega, e]
      exact g
    · intro g
      have := g (i + 1) (by omega) (by omega)
      rw [e] at this
      exact this
  | succ d ih =>
    intro h
    have e : bes n T SA (i + (d + 1 + 1)) = lcx n T (SA (i + (d + 1))) (SA (i + (d + 1 + 1))) := by rw [bes_eq (by omega), show i + (d + 1 + 1) - 1 = i + (d + 1) by omega, lc_symm]
    obtain ⟨s1, s2, s3⟩ := lc_sort3 hw hP (a := i) (b := i + (d + 1)) (c := i + (d + 1 + 1)) (by omega) (by omega) h
    have ih' := ih (by omega)
    constructor
    · intro g k h1 h2
      rcases Nat.lt_or_ge k (i + (d + 1 + 1)) with q | q
      · exact ih'.mp (by omega) k h1 (by omega)
      · rw [show k = i + (d + 1 + 1) by omega, e]; omega
    · intro g
      have a1 := ih'.mpr (fun k h1 h2 => g k h1 (by omega))
      have a2 := g (i + (d + 1 + 1)) (by omega) (Nat.le_refl _)
      rw [e] at a2
      omega
theorem lc_rng2 (hw : WFx n T tx st en) (hP : PM n T SA rk) {i j l : Nat} (hij : i < j) (hj : j < n) : l ≤ lcx n T (SA i) (SA j) ↔ ∀ k, i < k → k ≤ j → l ≤ bes n T SA k := by
  have := lc_rng hw hP (i := i) (l := l) (j - i - 1) (by omega)
  rw [show i + (j - i - 1 + 1) = j by omega] at this
  exact this
theorem run_set (hw : WFx n T tx st en) (hP : PM n T SA rk) {l a b i p : Nat} (hR : Run n T SA l a b) (ha : a ≤ i) (hb : i < b) (hl : l ≤ lcx n T (SA i) (SA i)) (hp : p < n) : l ≤ lcx n T p (SA i) ↔ a ≤ rk p ∧ rk p < b := by
  obtain ⟨r1, r2, r3, r4, r5⟩ := hR
  obtain ⟨k1, k2⟩ := hP.2.1 p hp
  rw [← k2]
  generalize rk p = j at *
  have e : rk (SA j) = j := (hP.1 j k1).2
  rcases Nat.lt_trichotomy j i with g | g | g
  · rw [lc_rng2 hw hP g (by omega), e]
    constructor
    · intro h
      refine ⟨?_, by omega⟩
      rcases Nat.lt_or_ge j a with q | q
      · have := h a q ha
        omega
      · exact q
    · intro h k h1 h2
      exact r5 k (by omega) (by omega)
  · subst g
    rw [e]
    exact ⟨fun _ => ⟨ha, hb⟩, fun _ => hl⟩
  · rw [lc_symm, lc_rng2 hw hP g k1, e]
    constructor
    · intro h
      refine ⟨by omega, ?_⟩
      rcases Nat.lt_or_ge j b with q | q
      · exact q
      · have := h b hb q
        omega
    · intro h k h1 h2
      exact r5 k (by omega) (by omega)
theorem run_one {l a b a' b' : Nat} (h : Run n T SA l a b) (h' : Run n T SA l a' b') (h1 : a < b') (h2 : a' < b) : a = a' ∧ b = b' := by
  obtain ⟨r1, r2, r3, r4, r5⟩ := h
  obtain ⟨s1, s2, s3, s4, s5⟩ := h'
  constructor
  · rcases Nat.lt_trichotomy a a' with g | g | g
    · have := r5 a' g h2; omega
    · exact g
    · have := s5 a g h1; omega
  · rcases Nat.lt_trichotomy b b' with g | g | g
    · have := s5 b h2 g; omega
    · exact g
    · have := r5 b' h1 g; omega
theorem run_ex (l : Nat) {i : Nat} (hi : i < n) : ∃ a b, Run n T SA l a b ∧ a ≤ i ∧ i < b := by
  have h1 : ∀ i : Nat, ∃ a, a ≤ i ∧ (a = 0 ∨ bes n T SA a < l) ∧ ∀ j, a < j → j ≤ i → l ≤ bes n T SA j := by
    intro i
    induction i with
    | zero => exact ⟨0, Nat.le_refl 0, Or.inl rfl, fun j h1 h2 => by omega⟩
    | succ i ih =>
      by_cases g : bes n T SA (i + 1) < l
      · exact ⟨i + 1, Nat.le_refl _, Or.inr g, fun j h1 h2 => by omega⟩
      · obtain ⟨a, a1, a2, a3⟩ := ih
        refine ⟨a, by omega, a2, fun j h1 h2 => ?_⟩
        rcases Nat.lt_or_ge j (i + 1) with q | q
        · exact a3 j h1 (by omega)
        · rw [show j = i + 1 by omega]; omega
  have h2 : ∀ (d i : Nat), i + d + 1 = n → ∃ b, i < b ∧ b ≤ n ∧ (b = n ∨ bes n T SA b < l) ∧ ∀ j, i < j → j < b → l ≤ bes n T SA j := by
    intro d
    induction d with
    | zero => intro i hi; exact ⟨n, by omega, by omega, Or.inl rfl, fun j h1 h2 => by omega⟩
    | succ d ih =>
      intro i hi
      by_cases g : bes n T SA (i + 1) < l
      · exact ⟨i + 1, by omega, by omega, Or.inr g, fun j h1 h2 => by omega⟩
      · obtain ⟨b, b1, b2, b3, b4⟩ := ih (i + 1) (by omega)
        refine ⟨b, by omega, b2, b3, fun j h1 h2 => ?_⟩
        rcases Nat.lt_or_ge (i + 1) j with q | q
        · exact b4 j q h2
        · rw [show j = i + 1 by omega]; omega
  obtain ⟨a, a1, a2, a3⟩ := h1 i
  obtain ⟨b, b1, b2, b3, b4⟩ := h2 (n - i - 1) i (by omega)
  refine ⟨a, b, ⟨by omega, b2, a2, b3, fun j h1 h2 => ?_⟩, a1, b1⟩
  rcases Nat.lt_or_ge i j with q | q
  · exact b4 j q h2
  · exact a3 j h1 q
theorem bes_b (hw : WFx n T tx st en) (hP : PM n T SA rk) {i : Nat} (hi : i < n) : bes n T SA i ≤ 408 := by
  unfold bes
  split
  · omega
  · exact (hw.lcn (hP.1 i hi).1 _).2
theorem bes_end (hw : WFx n T tx st en) {i l : Nat} (h : l ≤ bes n T SA (i + 1)) : l ≤ lcx n T (SA i) (SA i) ∧ l ≤ lcx n T (SA (i + 1)) (SA (i + 1)) := by
  rw [bes_eq (by omega), Nat.add_sub_cancel] at h
  have a := @lc_le_self n T (SA (i + 1)) (SA i)
  rw [lc_symm] at h
  have b := @lc_le_self n T (SA i) (SA (i + 1))
  rw [lc_symm] at a
  omega
/-- a run of two and more: all its suffixes are long enough -/
theorem run_end (hw : WFx n T tx st en) {l a b i : Nat} (hR : Run n T SA l a b) (ha : a ≤ i) (hb : i < b) (hl : l ≤ lcx n T (SA i) (SA i)) : l ≤ lcx n T (SA a) (SA a) := by
  rcases Nat.lt_or_ge a i with g | g
  · exact (bes_end hw (hR.2.2.2.2 (a + 1) (by omega) (by omega))).1
  · rw [show a = i by omega]; exact hl
theorem runEnd_ok (hc : RBc M n T tx st en SA rk cp cl) {l t : Nat} (hl : l < 2147483648) (ht : t ≤ n) : fX5_isRunEnd (nI t) (nI l) M = some (if t = n ∨ bes n T SA t < l then 1 else 0) := by
  have hn := hc.1.1
  have h4 := hc.2.2.1.1.1
  by_cases g : t = n
  · have z : nI t = nI n := by rw [g]
    rw [fX5_isRunEnd_s, h4, if_pos z, if_pos (Or.inl g)]
  · have z : ¬ nI t = nI n := fun h => g ((nI_eq_iff (by omega) (by omega)).mp h)
    have h12 := hc.2.2.1.2.2.2 t (by omega)
    have hb := bes_b hc.1 hc.2.1 (show t < n by omega)
    by_cases g2 : bes n T SA t < l
    · rw [if_pos (Or.inr g2)]
      simp (disch := omega) only [fX5_isRunEnd_s, h4, z, if_false, xin_nI, nI_clamp, if_pos, h12, nI_le_iff, if_neg]
    · rw [if_neg (by omega)]
      simp (disch := omega) only [fX5_isRunEnd_s, h4, z, if_false, xin_nI, nI_clamp, if_pos, h12, nI_le_iff]
theorem enough0 (hc : RBc M n T tx st en SA rk cp cl) {l m a b : Nat} (hl : l < 2147483648) (hm : m ≤ 408) (ha : a < b) (hb : b ≤ n) : fX5_isEnough (nI a) (nI b) (nI l) (nI m) 0 M = some (if l ≤ lcx n T (SA a) (SA a) ∧ m ≤ b - a then 1 else 0) := by
  have hn := hc.1.1
  have hs := (hc.2.1.1 a (by omega)).1
  have h10 := hc.2.2.1.2.1 a (by omega)
  have hlb := (hc.1.lcn hs (SA a)).2
  by_cases g : l ≤ lcx n T (SA a) (SA a)
  · by_cases g2 : m ≤ b - a
    · rw [if_pos ⟨g, g2⟩]
      simp (disch := omega) only [fX5_isEnough_s, xin_nI, nI_clamp, if_pos, h10, signsFrom_ok hc hs, Option.bind_some, nI_le_iff, if_true, fX5_isEnough_42_s, nI_sub, nI_lt_iff, if_neg]
    · rw [if_neg (fun h => g2 h.2)]
      simp (disch := omega) only [fX5_isEnough_s, xin_nI, nI_clamp, if_pos, h10, signsFrom_ok hc hs, Option.bind_some, nI_le_iff, if_true, fX5_isEnough_42_s, nI_sub, nI_lt_iff]
  · rw [if_neg (fun h => g h.1)]
    simp (disch := omega) only [fX5_isEnough_s, xin_nI, nI_clamp, if_pos, h10, signsFrom_ok hc hs, Option.bind_some, nI_le_iff, if_neg]
theorem rep_loop (hc : RBc M n T tx st en SA rk cp cl) (hm : RBm M n T tx st SA rk) {l m : Nat} (hl : l < 2147483648) (hl1 : 1 ≤ l) (hm1 : 1 ≤ m) (hm4 : m ≤ 408) : ∀ (d a t c fuel fuel2 : Nat), t + d = n → a < t → d + 1 < fuel → d < fuel2 → (∀ j, a < j → j < t → l ≤ bes n T SA j) → c ≤ t →
    ∃ r, fX5_countStanding_8 fuel (nI l) (nI m) (nI c) (nI a) (nI t) M = some r ∧ fX9_repeats_27 fuel2 (nI l) (nI m) (nI (c + (if l ≤ lcx n T (SA a) (SA a) ∧ m ≤ t - a then 1 else 0))) (nI (if l ≤ lcx n T (SA a) (SA a) then t - a else 0)) (nI t) M = some r := by
  have hn := hc.1.1
  have h4 := hc.2.2.1.1.1
  have h37 := hm.1.1
  intro d
  induction d with
  | zero =>
    intro a t c fuel fuel2 ht ha hf hf2 hj hct
    obtain ⟨f, rfl⟩ : ∃ f, fuel = f + 1 + 1 := ⟨fuel - 2, by omega⟩
    obtain ⟨f2, rfl⟩ : ∃ f, fuel2 = f + 1 := ⟨fuel2 - 1, by omega⟩
    have e : t = n := by omega
    refine ⟨nI (c + (if l ≤ lcx n T (SA a) (SA a) ∧ m ≤ t - a then 1 else 0)), ?_, by simp (disch := omega) only [fX9_repeats_27_s, h37, nI_le_iff, if_pos]⟩
    have hR := runEnd_ok hc hl (show t ≤ n by omega)
    rw [if_pos (Or.inl e)] at hR
    have hE := enough0 hc hl hm4 ha (show t ≤ n by omega)
    by_cases g : l ≤ lcx n T (SA a) (SA a) ∧ m ≤ t - a
    · rw [if_pos g] at hE ⊢
      simp (disch := omega) only [fX5_countStanding_8_s, h4, nI_lt_iff, if_neg, hR, Option.bind_some, z10, if_false, hE, fX5_countStanding_47_s, fX5_countStanding_51_s, nI_add1, if_pos]
    · rw [if_neg g] at hE ⊢
      simp (disch := omega) only [fX5_countStanding_8_s, h4, nI_lt_iff, if_neg, hR, Option.bind_some, z10, if_false, hE, if_true, fX5_countStanding_47_s, fX5_countStanding_51_s, nI_add1, if_pos, Nat.add_zero]
  | succ d ih =>
    intro a t c fuel fuel2 ht ha hf hf2 hj hct
    obtain ⟨f, rfl⟩ : ∃ f, fuel = f + 1 := ⟨fuel - 1, by omega⟩
    obtain ⟨f2, rfl⟩ : ∃ f, fuel2 = f + 1 := ⟨fuel2 - 1, by omega⟩
    have htn : t < n := by omega
    have hst := (hc.2.1.1 t htn).1
    have h44 := hm.2.2.1 t htn
    have hlt := (hc.1.lcn hst (SA t)).2
    have hbt := bes_b hc.1 hc.2.1 htn
    have hb0 := beside0_ok hc hm htn
    have hR := runEnd_ok hc hl (show t ≤ n by omega)
    have hE := enough0 hc hl hm4 ha (show t ≤ n by omega)
    have htE := toEnd_ok hn hm hst
    by_cases g : bes n T SA t < l
    · rw [if_pos (Or.inr g)] at hR
      have key : ∀ c2, c2 ≤ t + 1 → ∃ r, fX5_countStanding_8 f (nI l) (nI m) (nI c2) (nI t) (nI (t + 1)) M = some r ∧ fX9_repeats_56 (fX9_repeats_27 f2) (nI l) (nI m) (nI c2) (nI (if l ≤ lcx n T (SA a) (SA a) then t - a else 0)) (nI t) 0 M = some r := by
        intro c2 hc2
        obtain ⟨r, e1, e2⟩ := ih t (t + 1) c2 f f2 (by omega) (by omega) (by omega) (by omega) (fun j h1 h2 => by omega) hc2
        refine ⟨r, e1, ?_⟩
        rw [show t + 1 - t = 1 by omega] at e2
        by_cases q : l ≤ lcx n T (SA t) (SA t)
        · rw [if_pos q] at e2
          by_cases q2 : m = 1
          · rw [if_pos ⟨q, by omega⟩] at e2
            have z1 : (1 : Int32) = nI m := by rw [q2]; rfl
            have e2' : fX9_repeats_27 f2 (nI l) (nI m) (nI (c2 + 1)) 1 (nI (t + 1)) M = some r := e2
            rw [← z1] at e2' ⊢
            simp (disch := omega) only [fX9_repeats_56_s, xin_nI, nI_clamp, if_pos, h44, htE, Option.bind_some, nI_le_iff, if_true, fX9_repeats_90_s, fX9_repeats_104_s, nI_add1, e2']
          · rw [if_neg (by omega)] at e2
            have z1 : ¬ (1 : Int32) = nI m := fun h => q2 ((nI_eq_iff (a := 1) (b := m) (by omega) (by omega)).mp h).symm
            have e2' : fX9_repeats_27 f2 (nI l) (nI m) (nI c2 + nI 0) 1 (nI (t + 1)) M = some r := by rw [nI_plus]; exact e2
            have z0 : nI 0 = 0 := rfl
            rw [z0] at e2'
            simp (disch := omega) only [fX9_repeats_56_s, xin_nI, nI_clamp, if_pos, h44, htE, Option.bind_some, nI_le_iff, if_true, fX9_repeats_90_s, z1, if_false, fX9_repeats_104_s, nI_add1, e2']
        · rw [if_neg q, if_neg (fun h => q h.1)] at e2
          have z1 : ¬ (0 : Int32) = nI m := fun h => by have := (nI_eq_iff (a := 0) (b := m) (by omega) (by omega)).mp h; omega
          have e2' : fX9_repeats_27 f2 (nI l) (nI m) (nI c2 + nI 0) 0 (nI (t + 1)) M = some r := by rw [nI_plus]; exact e2
          have z0 : nI 0 = 0 := rfl
          rw [z0] at e2'
          simp (disch := omega) only [fX9_repeats_56_s, xin_nI, nI_clamp, if_pos, h44, htE, Option.bind_some, nI_le_iff, if_neg, fX9_repeats_90_s, z1, if_false, fX9_repeats_104_s, nI_add1, e2']
      obtain ⟨c2, ec2⟩ : ∃ c2, c2 = c + (if l ≤ lcx n T (SA a) (SA a) ∧ m ≤ t - a then 1 else 0) := ⟨_, rfl⟩
      have hc2 : c2 ≤ t + 1 := by rw [ec2]; split <;> omega
      obtain ⟨r, e1, e2⟩ := key c2 hc2
      refine ⟨r, ?_, ?_⟩
      · by_cases q : l ≤ lcx n T (SA a) (SA a) ∧ m ≤ t - a
        · rw [if_pos q] at hE ec2
          subst ec2
          simp (disch := omega) only [fX5_countStanding_8_s, h4, nI_lt_iff, if_neg, hR, Option.bind_some, z10, if_false, hE, fX5_countStanding_47_s, fX5_countStanding_51_s, nI_add1, e1]
        · rw [if_neg q] at hE ec2
          subst ec2
          rw [Nat.add_zero] at e1
          simp (disch := omega) only [fX5_countStanding_8_s, h4, nI_lt_iff, if_neg, hR, Option.bind_some, z10, if_false, hE, if_true, fX5_countStanding_47_s, fX5_countStanding_51_s, nI_add1, e1]
      · rw [← ec2]
        obtain ⟨hv, ehv, hvb⟩ : ∃ hv, hv = (if l ≤ lcx n T (SA a) (SA a) then t - a else 0) ∧ hv ≤ 408 := ⟨_, rfl, by split <;> omega⟩
        rw [← ehv] at e2 ⊢
        by_cases q : hv = 0
        · simp (disch := omega) only [fX9_repeats_27_s, h37, nI_le_iff, if_neg, nI_le0, q, if_true, fX9_repeats_55_s]
          rw [q] at e2
          exact e2
        · simp (disch := omega) only [fX9_repeats_27_s, h37, nI_le_iff, if_neg, nI_le0, q, if_false, hb0, Option.bind_some, nI_lt_iff, if_pos, fX9_repeats_55_s, e2]
    · rw [if_neg (by omega)] at hR
      have hae : l ≤ lcx n T (SA a) (SA a) := by
        rcases Nat.lt_or_ge (a + 1) t with q | q
        · exact (bes_end hc.1 (hj (a + 1) (by omega) q)).1
        · have q2 : t = a + 1 := by omega
          rw [q2] at g
          exact (bes_end hc.1 (show l ≤ bes n T SA (a + 1) by omega)).1
      have hte : l ≤ lcx n T (SA t) (SA t) := by
        have q2 : t = (t - 1) + 1 := by omega
        rw [q2] at g ⊢
        exact (bes_end hc.1 (show l ≤ bes n T SA (t - 1 + 1) by omega)).2
      obtain ⟨r, e1, e2⟩ := ih a (t + 1) c f f2 (by omega) (by omega) (by omega) (by omega) (fun j h1 h2 => by
        rcases Nat.lt_or_ge j t with q | q
        · exact hj j h1 q
        · rw [show j = t by omega]; omega) (by omega)
      refine ⟨r, by simp (disch := omega) only [fX5_countStanding_8_s, h4, nI_lt_iff, if_neg, hR, Option.bind_some, if_true, fX5_countStanding_51_s, nI_add1, e1], ?_⟩
      rw [if_pos hae] at e2 ⊢
      obtain ⟨c2, ec2⟩ : ∃ c2, c2 = c + (if l ≤ lcx n T (SA a) (SA a) ∧ m ≤ t - a then 1 else 0) := ⟨_, rfl⟩
      rw [← ec2]
      have e1z : ¬ (1 : Int32) = 0 := by decide
      by_cases q2 : t - a + 1 = m
      · have z1 : nI (t - a + 1) = nI m := by rw [q2]
        rw [if_neg (by omega), Nat.add_zero] at ec2
        subst ec2
        rw [if_pos ⟨hae, by omega⟩, show t + 1 - a = t - a + 1 by omega] at e2
        simp (disch := omega) only [fX9_repeats_27_s, h37, nI_le_iff, if_neg, nI_le0, hb0, Option.bind_some, nI_lt_iff, fX9_repeats_56_s, xin_nI, nI_clamp, if_pos, h44, htE, e1z, if_false, nI_add1, fX9_repeats_90_s, z1, if_true, fX9_repeats_104_s]
        rw [z1] at e2
        exact e2
      · have z1 : ¬ nI (t - a + 1) = nI m := fun h => q2 ((nI_eq_iff (by omega) (by omega)).mp h)
        have ec3 : c2 = c + (if l ≤ lcx n T (SA a) (SA a) ∧ m ≤ t + 1 - a then 1 else 0) := by
          rw [ec2]
          by_cases q3 : m ≤ t - a
          · rw [if_pos ⟨hae, q3⟩, if_pos ⟨hae, by omega⟩]
          · rw [if_neg (fun h => q3 h.2), if_neg (by omega)]
        rw [← ec3, show t + 1 - a = t - a + 1 by omega] at e2
        have e2' : fX9_repeats_27 f2 (nI l) (nI m) (nI c2 + nI 0) (nI (t - a + 1)) (nI (t + 1)) M = some r := by rw [nI_plus]; exact e2
        have z0 : nI 0 = 0 := rfl
        rw [z0] at e2'
        simp (disch := omega) only [fX9_repeats_27_s, h37, nI_le_iff, if_neg, nI_le0, hb0, Option.bind_some, nI_lt_iff, fX9_repeats_56_s, xin_nI, nI_clamp, if_pos, h44, htE, e1z, if_false, nI_add1, fX9_repeats_90_s, z1, fX9_repeats_104_s, e2']
theorem ge1_ex {x : Int32} (h : ¬ x < 1) : ∃ l, 1 ≤ l ∧ l < 2147483648 ∧ x = nI l := by
  have h0 : ¬ x < 0 := fun g => h (by
    rw [Int32.lt_iff_toInt_lt] at g ⊢
    have e0 : (0 : Int32).toInt = 0 := rfl
    have e1 : (1 : Int32).toInt = 1 := rfl
    omega)
  obtain ⟨c, hc, rfl⟩ := nn_ex h0
  refine ⟨c, ?_, hc, rfl⟩
  rcases Nat.lt_or_ge c 1 with g | g
  · exact absurd ((nI_lt_iff (a := c) (b := 1) (by omega) (by omega)).mpr g) h
  · exact g
theorem repeats_ok (hc : RBc M n T tx st en SA rk cp cl) (hm : RBm M n T tx st SA rk) (x y : Int32) : ∃ r, fX8_repeats x y M = some r ∧ fX9_repeats x y M = some r := by
  have hn := hc.1.1
  have h4 := hc.2.2.1.1.1
  have h37 := hm.1.1
  by_cases g1 : x < 1
  · exact ⟨-1, by rw [fX8_repeats_s, if_pos g1], by rw [fX9_repeats_s, if_pos g1]⟩
  · by_cases g2 : y < 1
    · exact ⟨-1, by rw [fX8_repeats_s, if_neg g1, if_pos g2], by rw [fX9_repeats_s, if_neg g1, if_pos g2]⟩
    · by_cases g3 : y ≤ 408
      · obtain ⟨l, l1, l2, rfl⟩ := ge1_ex g1
        obtain ⟨m, m1, m2, rfl⟩ := ge1_ex g2
        have m3 : m ≤ 408 := (nI_le_iff (a := m) (b := 408) (by omega) (by omega)).mp g3
        suffices h : ∃ r, fX5_countStanding_8 4096 (nI l) (nI m) 0 0 1 M = some r ∧ fX9_repeats_27 4096 (nI l) (nI m) 0 0 0 M = some r by
          obtain ⟨r, e1, e2⟩ := h
          exact ⟨r, by rw [fX8_repeats_s, if_neg g1, if_neg g2, if_pos g3, fX5_countStanding_s, e1, Option.bind_some], by rw [fX9_repeats_s, if_neg g1, if_neg g2, if_pos g3, e2]⟩
        by_cases g : n = 0
        · refine ⟨0, ?_, ?_⟩
          · rw [show (4096 : Nat) = 4095 + 1 from rfl, fX5_countStanding_8_s, h4, g, if_pos (by decide)]
          · rw [show (4096 : Nat) = 4095 + 1 from rfl, fX9_repeats_27_s, h37, g, if_pos (by decide)]
        · have hs0 := (hc.2.1.1 0 (by omega)).1
          have h44 := hm.2.2.1 0 (by omega)
          have htE := toEnd_ok hn hm hs0
          have hlt := (hc.1.lcn hs0 (SA 0)).2
          have a0 : ¬ nI n ≤ 0 := fun h => g ((nI_le0 (by omega)).mp h)
          have a1 : (0 : Int32) ≤ 0 := by decide
          have a2 : xin 0 408 := by decide
          have a3 : (0 : Int32).toNatClampNeg = 0 := rfl
          have a4 : (0 : Int32) + 1 = 1 := by decide
          obtain ⟨r, e1, e2⟩ := rep_loop hc hm l2 l1 m1 m3 (n - 1) 0 1 0 4096 4095 (by omega) (by omega) (by omega) (by omega) (fun j h1 h2 => by omega) (by omega)
          refine ⟨r, e1, ?_⟩
          have a5 : (0 : Int32) + 0 = 0 := by decide
          rw [show (4096 : Nat) = 4095 + 1 from rfl, fX9_repeats_27_s]
          by_cases q : l ≤ lcx n T (SA 0) (SA 0)
          · rw [if_pos q] at e2
            by_cases q2 : m = 1
            · rw [if_pos ⟨q, by omega⟩] at e2
              have z1 : (1 : Int32) = nI m := by rw [q2]; rfl
              have e2' : fX9_repeats_27 4095 (nI l) (nI m) 1 1 1 M = some r := e2
              rw [← z1] at e2' ⊢
              simp (disch := omega) only [h37, a0, if_false, a1, if_true, fX9_repeats_55_s, fX9_repeats_56_s, a2, a3, h44, htE, Option.bind_some, nI_le_iff, if_pos, fX9_repeats_90_s, fX9_repeats_104_s, a4, e2']
            · rw [if_neg (by omega)] at e2
              have z1 : ¬ (1 : Int32) = nI m := fun h => q2 ((nI_eq_iff (a := 1) (b := m) (by omega) (by omega)).mp h).symm
              have e2' : fX9_repeats_27 4095 (nI l) (nI m) 0 1 1 M = some r := e2
              simp (disch := omega) only [h37, a0, if_false, a1, if_true, fX9_repeats_55_s, fX9_repeats_56_s, a2, a3, h44, htE, Option.bind_some, nI_le_iff, if_pos, fX9_repeats_90_s, z1, fX9_repeats_104_s, a4, a5, e2']
          · rw [if_neg q, if_neg (fun h => q h.1)] at e2
            have z1 : ¬ (0 : Int32) = nI m := fun h => by have := (nI_eq_iff (a := 0) (b := m) (by omega) (by omega)).mp h; omega
            have e2' : fX9_repeats_27 4095 (nI l) (nI m) 0 0 1 M = some r := e2
            simp (disch := omega) only [h37, a0, if_false, a1, if_true, fX9_repeats_55_s, fX9_repeats_56_s, a2, a3, h44, htE, Option.bind_some, nI_le_iff, if_neg, if_pos, fX9_repeats_90_s, z1, fX9_repeats_104_s, a4, a5, e2']
      · exact ⟨-1, by rw [fX8_repeats_s, if_neg g1, if_neg g2, if_neg g3], by rw [fX9_repeats_s, if_neg g1, if_neg g2, if_neg g3]⟩
end RUN
