/-! INDUCED SORTING, the falling pass (over functions of Nat) -/
def fup {α : Type} (f : Nat → α) (k : Nat) (v : α) : Nat → α := fun j => if j = k then v else f j
theorem fup_self {α : Type} (f : Nat → α) (k : Nat) (v : α) : fup f k v k = v := by simp [fup]
theorem fup_ne {α : Type} (f : Nat → α) {k j : Nat} (v : α) (h : j ≠ k) : fup f k v j = f j := by simp [fup, h]
def bsx (n : Nat) (T : Nat → Nat) (c : Nat) : Nat := cnt (fun p => decide (T p < c)) n
def Lbx (n : Nat) (T : Nat → Nat) (S : Nat → Bool) (c : Nat) : Nat := cnt (fun p => decide (T p = c) && !S p) n
def Sbx (n : Nat) (T : Nat → Nat) (S : Nat → Bool) (c : Nat) : Nat := cnt (fun p => decide (T p = c) && S p) n
theorem bsx_succ (n : Nat) (T : Nat → Nat) (S : Nat → Bool) (c : Nat) : bsx n T (c + 1) = bsx n T c + Lbx n T S c + Sbx n T S c := by
  have h1 : bsx n T (c + 1) = bsx n T c + cnt (fun p => decide (T p = c)) n := by
    apply cnt_split
    intro i hi
    constructor
    · by_cases a : T i < c
      · simp [a]; omega
      · by_cases b : T i = c
        · simp [b]
        · simp [a, b]; omega
    · by_cases a : T i < c
      · simp; omega
      · simp [a]
  have h2 : cnt (fun p => decide (T p = c)) n = Lbx n T S c + Sbx n T S c := by
    apply cnt_split
    intro i hi
    constructor
    · cases S i <;> simp
    · cases S i <;> simp
  omega
theorem bsx_mono (n : Nat) (T : Nat → Nat) {a b : Nat} (h : a ≤ b) : bsx n T a ≤ bsx n T b := by
  apply cnt_le
  intro i hi hp
  simp only [decide_eq_true_eq] at hp ⊢
  omega
theorem bsx_zero (n : Nat) (T : Nat → Nat) : bsx n T 0 = 0 := cnt_false n (fun i _ => by simp)
theorem bsx_le (n : Nat) (T : Nat → Nat) (c : Nat) : bsx n T c ≤ n := cnt_le_n _ n
theorem bsx_top {n K : Nat} {T : Nat → Nat} (h : ∀ p, p < n → T p < K) : bsx n T K = n := cnt_true n (fun i hi => by simp [h i hi])
theorem bsx_one {n : Nat} {T : Nat → Nat} {a b j : Nat} (h1 : bsx n T a ≤ j) (h2 : j < bsx n T (a + 1)) (h3 : bsx n T b ≤ j) (h4 : j < bsx n T (b + 1)) : a = b := by
  rcases Nat.lt_trichotomy a b with h | h | h
  · have := bsx_mono n T (show a + 1 ≤ b by omega); omega
  · exact h
  · have := bsx_mono n T (show b + 1 ≤ a by omega); omega
theorem bsx_ord {n : Nat} {T : Nat → Nat} {a b j k : Nat} (h1 : bsx n T a ≤ j) (h4 : k < bsx n T (b + 1)) (h : j ≤ k) : a ≤ b := by
  rcases Nat.lt_or_ge b a with g | g
  · have := bsx_mono n T (show b + 1 ≤ a by omega); omega
  · exact g
theorem bsx_find {n : Nat} {T : Nat → Nat} {K : Nat} (h : ∀ p, p < n → T p < K) {j : Nat} (hj : j < n) : ∃ c, c < K ∧ bsx n T c ≤ j ∧ j < bsx n T (c + 1) := by
  have key : ∀ d, d ≤ K → j < bsx n T d → ∃ c, c < K ∧ bsx n T c ≤ j ∧ j < bsx n T (c + 1) := by
    intro d
    induction d with
    | zero => intro _ h0; rw [bsx_zero] at h0; omega
    | succ d ih =>
      intro hd h0
      by_cases h1 : j < bsx n T d
      · exact ih (by omega) h1
      · exact ⟨d, by omega, by omega, h0⟩
  exact key K (Nat.le_refl _) (by rw [bsx_top h]; exact hj)
abbrev sst : Type := (Nat → Option Nat) × (Nat → Nat)
def fput (T : Nat → Nat) (p : Nat) (s : sst) : sst := (fup s.1 (s.2 (T p)) (some p), fup s.2 (T p) (s.2 (T p) + 1))
theorem fput_1 (T : Nat → Nat) (p : Nat) (s : sst) : (fput T p s).1 = fup s.1 (s.2 (T p)) (some p) := rfl
theorem fput_2 (T : Nat → Nat) (p : Nat) (s : sst) : (fput T p s).2 = fup s.2 (T p) (s.2 (T p) + 1) := rfl
def fstep (T : Nat → Nat) (S : Nat → Bool) (i : Nat) (s : sst) : sst :=
  match s.1 i with
  | some (p + 1) => if S p then s else fput T p s
  | _ => s
def fallx (T : Nat → Nat) (S : Nat → Bool) (s0 : sst) : Nat → sst
  | 0 => s0
  | k + 1 => fstep T S k (fallx T S s0 k)
/-- the seeds and what falls: where they stand, and in order -/
def FJ (n : Nat) (T : Nat → Nat) (S LM : Nat → Bool) (r : Nat → Nat → Prop) (s : sst) (pl : Nat → Bool) : Prop :=
  (∀ c, s.2 c = bsx n T c + cnt (fun p => (decide (T p = c) && !S p) && pl p) n) ∧
  (∀ j q, s.1 j = some q → q < n ∧ ((S q = false ∧ pl q = true ∧ bsx n T (T q) ≤ j ∧ j < s.2 (T q)) ∨ (LM q = true ∧ bsx n T (T q) + Lbx n T S (T q) ≤ j ∧ j < bsx n T (T q + 1)))) ∧
  (∀ q, q < n → S q = false → pl q = true → ∃ j, s.1 j = some q) ∧
  (∀ q, q < n → LM q = true → ∃ j, s.1 j = some q) ∧
  (∀ j j' q, s.1 j = some q → s.1 j' = some q → j = j') ∧
  (∀ j j' q q', j < j' → s.1 j = some q → s.1 j' = some q' → r q q') ∧
  (∀ c j, bsx n T c ≤ j → j < s.2 c → ∃ q, s.1 j = some q)
section FALL
variable {n : Nat} {T : Nat → Nat} {S LM : Nat → Bool} {r : Nat → Nat → Prop}
theorem FJ.cuL {s : sst} {pl : Nat → Bool} (h : FJ n T S LM r s pl) (c : Nat) : bsx n T c ≤ s.2 c ∧ s.2 c ≤ bsx n T c + Lbx n T S c := by
  have h1 := h.1 c
  have h2 : cnt (fun p => (decide (T p = c) && !S p) && pl p) n ≤ Lbx n T S c := by
    apply cnt_le
    intro i hi hp
    rw [Bool.and_eq_true] at hp
    exact hp.1
  omega
theorem FJ.bkt {s : sst} {pl : Nat → Bool} (h : FJ n T S LM r s pl) {j q : Nat} (hj : s.1 j = some q) : bsx n T (T q) ≤ j ∧ j < bsx n T (T q + 1) := by
  have h1 := (h.2.1 j q hj).2
  have h2 := h.cuL (T q)
  have h3 := bsx_succ n T S (T q)
  omega
theorem FJ.put {s : sst} {pl : Nat → Bool} (h : FJ n T S LM r s pl) (hLM : ∀ q, LM q = true → S q = true)
    (P1 : ∀ p q, p < n → q < n → T p < T q → r p q) (P2 : ∀ p q, p < n → q < n → T p = T q → S p = false → S q = true → r p q)
    {p : Nat} (hp : p < n) (hS : S p = false) (hpl : pl p = false) (hr1 : ∀ j q, j < s.2 (T p) → s.1 j = some q → T q = T p → S q = false → pl q = true → r q p) :
    FJ n T S LM r (fput T p s) (fup pl p true) ∧ s.1 (s.2 (T p)) = none := by
  have hcu := h.cuL (T p)
  have hsu := bsx_succ n T S (T p)
  have hlt : s.2 (T p) < bsx n T (T p) + Lbx n T S (T p) := by
    have h1 := h.1 (T p)
    have h2 : cnt (fun q => (decide (T q = T p) && !S q) && pl q) n < Lbx n T S (T p) := by
      apply cnt_lt n p
      · intro i hi hq
        rw [Bool.and_eq_true] at hq
        exact hq.1
      · exact hp
      · simp [hpl]
      · simp [hS]
    omega
  have hnone : ∀ q, s.1 (s.2 (T p)) ≠ some q := by
    intro q hq
    have hb := h.bkt hq
    have he : T q = T p := bsx_one hb.1 hb.2 hcu.1 (by omega)
    have h1 := (h.2.1 _ q hq).2
    rw [he] at h1
    omega
  obtain ⟨hA, hB, hC, hD, hE, hF, hH⟩ := id h
  have hold : ∀ j q, (fput T p s).1 j = some q → (j = s.2 (T p) ∧ q = p) ∨ (j ≠ s.2 (T p) ∧ s.1 j = some q) := by
    intro j q hj
    rw [fput_1] at hj
    by_cases e : j = s.2 (T p)
    · subst e
      rw [fup_self] at hj
      exact Or.inl ⟨rfl, (Option.some.inj hj).symm⟩
    · rw [fup_ne _ _ e] at hj
      exact Or.inr ⟨e, hj⟩
  have hnew : ∀ j q, s.1 j = some q → (fput T p s).1 j = some q := by
    intro j q hj
    rw [fput_1, fup_ne]
    · exact hj
    · intro e
      rw [e] at hj
      exact hnone q hj
  have hself : (fput T p s).1 (s.2 (T p)) = some p := fup_self _ _ _
  have hcu2 : ∀ c, s.2 c ≤ (fput T p s).2 c := by
    intro c
    rw [fput_2]
    by_cases e : c = T p
    · subst e; rw [fup_self]; omega
    · rw [fup_ne _ _ e]; exact Nat.le_refl _
  have hcuS : (fput T p s).2 (T p) = s.2 (T p) + 1 := fup_self _ _ _
  have hpl2 : ∀ q, pl q = true → fup pl p true q = true := by
    intro q hq
    by_cases e : q = p
    · subst e; rw [fup_self]
    · rw [fup_ne _ _ e]; exact hq
  have hnp : ∀ j, s.1 j ≠ some p := by
    intro j hj
    rcases (hB j p hj).2 with g | g
    · rw [hpl] at g; exact absurd g.2.1 (by simp)
    · have := hLM p g.1; rw [hS] at this; exact absurd this (by simp)
  refine ⟨⟨?_, ?_, ?_, ?_, ?_, ?_, ?_⟩, ?_⟩
  · intro c
    by_cases e : c = T p
    · subst e
      rw [hcuS, hA]
      have := cnt_add (P := fun q => (decide (T q = T p) && !S q) && pl q) (Q := fun q => (decide (T q = T p) && !S q) && fup pl p true q) n p hp (by simp [hpl]) (by simp [hS, fup_self]) (fun i hi hn => by rw [fup_ne _ _ hn])
      omega
    · have h1 : (fput T p s).2 c = s.2 c := fup_ne _ _ e
      rw [h1, hA]
      congr 1
      apply cnt_eq
      intro i hi
      by_cases e2 : i = p
      · subst e2
        have e3 : ¬ T i = c := fun q => e q.symm
        simp [e3]
      · rw [fup_ne _ _ e2]
  · intro j q hj
    rcases hold j q hj with ⟨e1, e2⟩ | ⟨e1, e2⟩
    · subst e1; subst e2
      exact ⟨hp, Or.inl ⟨hS, fup_self _ _ _, hcu.1, by rw [hcuS]; omega⟩⟩
    · obtain ⟨g1, g2⟩ := hB j q e2
      refine ⟨g1, ?_⟩
      rcases g2 with g | g
      · exact Or.inl ⟨g.1, hpl2 q g.2.1, g.2.2.1, Nat.lt_of_lt_of_le g.2.2.2 (hcu2 _)⟩
      · exact Or.inr g
  · intro q hq hSq hplq
    by_cases e : q = p
    · subst e; exact ⟨_, hself⟩
    · rw [fup_ne _ _ e] at hplq
      obtain ⟨j, hj⟩ := hC q hq hSq hplq
      exact ⟨j, hnew j q hj⟩
  · intro q hq hL
    obtain ⟨j, hj⟩ := hD q hq hL
    exact ⟨j, hnew j q hj⟩
  · intro j j' q hj hj'
    rcases hold j q hj with ⟨e1, e2⟩ | ⟨e1, e2⟩ <;> rcases hold j' q hj' with ⟨e3, e4⟩ | ⟨e3, e4⟩
    · omega
    · subst e2; exact absurd e4 (hnp j')
    · subst e4; exact absurd e2 (hnp j)
    · exact hE j j' q e2 e4
  · intro j j' q q' hjj hj hj'
    rcases hold j q hj with ⟨e1, e2⟩ | ⟨e1, e2⟩ <;> rcases hold j' q' hj' with ⟨e3, e4⟩ | ⟨e3, e4⟩
    · omega
    · subst e1; subst e2
      have hb := h.bkt e4
      have hle : T q ≤ T q' := bsx_ord hcu.1 hb.2 (by omega)
      have hq' := (hB j' q' e4).1
      rcases Nat.lt_or_ge (T q) (T q') with g | g
      · exact P1 _ _ hp hq' g
      · have he : T q = T q' := by omega
        rcases (hB j' q' e4).2 with k | k
        · rw [← he] at k; omega
        · exact P2 _ _ hp hq' he hS (hLM q' k.1)
    · subst e3; subst e4
      have hb := h.bkt e2
      have hq := (hB j q e2).1
      have hle : T q ≤ T q' := bsx_ord hb.1 (show s.2 (T q') < bsx n T (T q' + 1) by omega) (by omega)
      rcases Nat.lt_or_ge (T q) (T q') with g | g
      · exact P1 _ _ hq hp g
      · have he : T q = T q' := by omega
        rcases (hB j q e2).2 with k | k
        · exact hr1 j q hjj e2 he k.1 k.2.1
        · rw [he] at k; omega
    · exact hF j j' q q' hjj e2 e4
  · intro c j h1 h2
    by_cases e : j = s.2 (T p)
    · subst e; exact ⟨p, hself⟩
    · have h3 : j < s.2 c := by
        by_cases e2 : c = T p
        · subst e2; rw [hcuS] at h2; omega
        · have h1 : (fput T p s).2 c = s.2 c := fup_ne _ _ e2
          rw [h1] at h2; exact h2
      obtain ⟨q, hq⟩ := hH c j h1 h3
      exact ⟨q, hnew j q hq⟩
  · cases hx : s.1 (s.2 (T p)) with
    | none => rfl
    | some q => exact absurd hx (hnone q)
/-- who is placed when i slots have been looked at -/
def FG (n : Nat) (S : Nat → Bool) (i : Nat) (s : sst) (pl : Nat → Bool) : Prop := ∀ q, q < n → S q = false → (pl q = true ↔ q + 1 = n ∨ ∃ j, j < i ∧ s.1 j = some (q + 1))
theorem FJ.step (hSd : ∀ p, p < n → (S p = true ↔ slt n T p (p + 1))) (hLM : ∀ q, LM q = true → S q = true)
    (P1 : ∀ p q, p < n → q < n → T p < T q → r p q) (P2 : ∀ p q, p < n → q < n → T p = T q → S p = false → S q = true → r p q)
    (P3 : ∀ p q, p + 1 < n → q + 1 < n → T p = T q → S p = false → S q = false → r (p + 1) (q + 1) → r p q) (P4 : ∀ q, q + 1 < n → T (n - 1) = T q → S q = false → r (n - 1) q)
    {s : sst} {pl : Nat → Bool} {i : Nat} (h : FJ n T S LM r s pl) (hG : FG n S i s pl) : ∃ pl2, FJ n T S LM r (fstep T S i s) pl2 ∧ FG n S (i + 1) (fstep T S i s) pl2 := by
  have stay : (∀ q, q < n → S q = false → s.1 i ≠ some (q + 1)) → ∃ pl2, FJ n T S LM r s pl2 ∧ FG n S (i + 1) s pl2 := by
    intro hno
    refine ⟨pl, h, fun q hq hSq => (hG q hq hSq).trans ⟨?_, ?_⟩⟩
    · rintro (g | ⟨j, g1, g2⟩)
      · exact Or.inl g
      · exact Or.inr ⟨j, by omega, g2⟩
    · rintro (g | ⟨j, g1, g2⟩)
      · exact Or.inl g
      · by_cases e : j = i
        · subst e; exact absurd g2 (hno q hq hSq)
        · exact Or.inr ⟨j, by omega, g2⟩
  unfold fstep
  cases hi : s.1 i with
  | none => exact stay (fun q _ _ => by rw [hi]; simp)
  | some x =>
    cases x with
    | zero => exact stay (fun q _ _ => by rw [hi]; simp)
    | succ p =>
      by_cases hSp : S p = true
      · simp only [hSp, if_true]
        refine stay (fun q _ hSq => ?_)
        rw [hi]
        intro e
        have : p = q := by have := Option.some.inj e; omega
        subst this
        rw [hSp] at hSq
        exact absurd hSq (by simp)
      · have hSp : S p = false := by simpa using hSp
        simp only [hSp, Bool.false_eq_true, if_false]
        have hp1 := (h.2.1 i _ hi).1
        have hpn : p < n := by omega
        have hpl : pl p = false := by
          cases hx : pl p with
          | false => rfl
          | true =>
            rcases (hG p hpn hSp).mp hx with g | ⟨j, g1, g2⟩
            · omega
            · have := h.2.2.2.2.1 j i _ g2 hi
              omega
        have hnS : ¬ slt n T p (p + 1) := fun g => by
          have := (hSd p hpn).mpr g
          rw [hSp] at this
          exact absurd this (by simp)
        obtain ⟨h2, hnone⟩ := h.put hLM P1 P2 hpn hSp hpl (fun j q hj hjq hT hSq hplq => by
          have hqn := (h.2.1 j q hjq).1
          rcases (hG q hqn hSq).mp hplq with g | ⟨j2, g1, g2⟩
          · have : q = n - 1 := by omega
            subst this
            exact P4 p hp1 hT hSp
          · have hq1 := (h.2.1 j2 _ g2).1
            exact P3 q p hq1 hp1 hT hSq hSp (h.2.2.2.2.2.1 j2 i _ _ g1 g2 hi))
        have hgt : i < s.2 (T p) := by
          have hb := h.bkt hi
          have hc := h.cuL (T p)
          have hle := slt_fallT hp1 hnS
          rcases Nat.lt_or_ge (T (p + 1)) (T p) with g | g
          · have := bsx_mono n T (show T (p + 1) + 1 ≤ T p by omega)
            omega
          · have he : T p = T (p + 1) := by omega
            have hf := slt_fall1 hp1 hnS he
            rcases (h.2.1 i _ hi).2 with k | k
            · rw [he]; exact k.2.2.2
            · have := (hSd (p + 1) hp1).mp (hLM _ k.1)
              exact absurd this hf
        have hsame : ∀ j, j ≤ i → (fput T p s).1 j = s.1 j := by
          intro j hj
          rw [fput_1, fup_ne]
          omega
        refine ⟨_, h2, fun q hq hSq => ⟨fun hx => ?_, fun hx => ?_⟩⟩
        · by_cases e : q = p
          · subst e
            exact Or.inr ⟨i, by omega, by rw [hsame i (Nat.le_refl _)]; exact hi⟩
          · rw [fup_ne _ _ e] at hx
            rcases (hG q hq hSq).mp hx with g | ⟨j, g1, g2⟩
            · exact Or.inl g
            · exact Or.inr ⟨j, by omega, by rw [hsame j (by omega)]; exact g2⟩
        · by_cases e : q = p
          · subst e; rw [fup_self]
          · rw [fup_ne _ _ e]
            refine (hG q hq hSq).mpr ?_
            rcases hx with g | ⟨j, g1, g2⟩
            · exact Or.inl g
            · rw [hsame j (by omega)] at g2
              by_cases e2 : j = i
              · subst e2
                rw [hi] at g2
                have := Option.some.inj g2
                omega
              · exact Or.inr ⟨j, by omega, g2⟩
/-- behind the falling pass: all that falls is placed -/
theorem FJ.all (hSd : ∀ p, p < n → (S p = true ↔ slt n T p (p + 1))) (hLM : ∀ q, LM q = true → S q = true) (hLM2 : ∀ q, q + 1 < n → S q = false → S (q + 1) = true → LM (q + 1) = true)
    (P1 : ∀ p q, p < n → q < n → T p < T q → r p q) (P2 : ∀ p q, p < n → q < n → T p = T q → S p = false → S q = true → r p q)
    (P3 : ∀ p q, p + 1 < n → q + 1 < n → T p = T q → S p = false → S q = false → r (p + 1) (q + 1) → r p q) (P4 : ∀ q, q + 1 < n → T (n - 1) = T q → S q = false → r (n - 1) q)
    {s0 : sst} {pl0 : Nat → Bool} (h0 : FJ n T S LM r s0 pl0) (hG0 : FG n S 0 s0 pl0) :
    ∃ pl, FJ n T S LM r (fallx T S s0 n) pl ∧ ∀ q, q < n → S q = false → pl q = true := by
  have hall : ∀ k, ∃ pl, FJ n T S LM r (fallx T S s0 k) pl ∧ FG n S k (fallx T S s0 k) pl := by
    intro k
    induction k with
    | zero => exact ⟨pl0, h0, hG0⟩
    | succ k ih =>
      obtain ⟨pl, h1, h2⟩ := ih
      exact FJ.step hSd hLM P1 P2 P3 P4 h1 h2
  obtain ⟨pl, h1, h2⟩ := hall n
  refine ⟨pl, h1, ?_⟩
  have key : ∀ d q, n - q ≤ d → q < n → S q = false → pl q = true := by
    intro d
    induction d with
    | zero => intro q hd hq; omega
    | succ d ih =>
      intro q hd hq hSq
      refine (h2 q hq hSq).mpr ?_
      by_cases e : q + 1 = n
      · exact Or.inl e
      · right
        have hj : ∃ j, (fallx T S s0 n).1 j = some (q + 1) := by
          cases hS1 : S (q + 1) with
          | false => exact h1.2.2.1 (q + 1) (by omega) hS1 (ih (q + 1) (by omega) (by omega) hS1)
          | true => exact h1.2.2.2.1 (q + 1) (by omega) (hLM2 q (by omega) hSq hS1)
        obtain ⟨j, hj⟩ := hj
        refine ⟨j, ?_, hj⟩
        have hb := h1.bkt hj
        have := bsx_le n T (T (q + 1) + 1)
        omega
  exact fun q hq => key (n - q) q (Nat.le_refl _) hq
end FALL
