/-! THE ORDER OF SUFFIXES of a row T of n letters: the end is less than all -/
def slt (n : Nat) (T : Nat → Nat) (p q : Nat) : Prop := ∃ k, (∀ i, i < k → p + i < n ∧ q + i < n ∧ T (p + i) = T (q + i)) ∧ q + k < n ∧ (p + k = n ∨ (p + k < n ∧ T (p + k) < T (q + k)))
theorem slt_head {n : Nat} {T : Nat → Nat} {p q : Nat} (hp : p < n) (hq : q < n) : slt n T p q ↔ T p < T q ∨ (T p = T q ∧ slt n T (p + 1) (q + 1)) := by
  constructor
  · rintro ⟨k, h1, h2, h3⟩
    cases k with
    | zero =>
      left
      rcases h3 with h | ⟨_, h⟩
      · omega
      · exact h
    | succ k =>
      right
      refine ⟨(h1 0 (by omega)).2.2, k, fun i hi => ?_, by omega, ?_⟩
      · have h := h1 (i + 1) (by omega)
        rw [show p + 1 + i = p + (i + 1) by omega, show q + 1 + i = q + (i + 1) by omega]
        exact h
      · rw [show p + 1 + k = p + (k + 1) by omega, show q + 1 + k = q + (k + 1) by omega]
        exact h3
  · rintro (h | ⟨h, k, h1, h2, h3⟩)
    · exact ⟨0, fun i hi => by omega, by omega, Or.inr ⟨by omega, h⟩⟩
    · refine ⟨k + 1, fun i hi => ?_, by omega, ?_⟩
      · cases i with
        | zero => exact ⟨hp, hq, h⟩
        | succ i =>
          have h4 := h1 i (by omega)
          rw [show p + (i + 1) = p + 1 + i by omega, show q + (i + 1) = q + 1 + i by omega]
          exact h4
      · rw [show p + (k + 1) = p + 1 + k by omega, show q + (k + 1) = q + 1 + k by omega]
        exact h3
theorem slt_end {n : Nat} {T : Nat → Nat} {q : Nat} (hq : q < n) : slt n T n q := ⟨0, fun i hi => by omega, by omega, Or.inl (by omega)⟩
theorem slt_lt {n : Nat} {T : Nat → Nat} {p q : Nat} (h : slt n T p q) : q < n := by
  obtain ⟨k, h1, h2, h3⟩ := h
  omega
theorem slt_irr {n : Nat} {T : Nat → Nat} {p : Nat} : ¬ slt n T p p := by
  rintro ⟨k, h1, h2, h3 | ⟨h3, h4⟩⟩
  · omega
  · exact Nat.lt_irrefl _ h4
theorem slt_tri {n : Nat} {T : Nat → Nat} : ∀ (d p q : Nat), n - p ≤ d → p ≤ n → q ≤ n → p ≠ q → slt n T p q ∨ slt n T q p := by
  intro d
  induction d with
  | zero =>
    intro p q hd hp hq hn
    have : p = n := by omega
    subst this
    exact Or.inl (slt_end (by omega))
  | succ d ih =>
    intro p q hd hp hq hn
    by_cases h1 : p = n
    · subst h1
      exact Or.inl (slt_end (by omega))
    · by_cases h2 : q = n
      · subst h2
        exact Or.inr (slt_end (by omega))
      · rw [slt_head (p := p) (q := q) (by omega) (by omega), slt_head (p := q) (q := p) (by omega) (by omega)]
        rcases Nat.lt_trichotomy (T p) (T q) with h | h | h
        · exact Or.inl (Or.inl h)
        · rcases ih (p + 1) (q + 1) (by omega) (by omega) (by omega) (by omega) with g | g
          · exact Or.inl (Or.inr ⟨h, g⟩)
          · exact Or.inr (Or.inr ⟨h.symm, g⟩)
        · exact Or.inr (Or.inl h)
theorem slt_total {n : Nat} {T : Nat → Nat} {p q : Nat} (hp : p ≤ n) (hq : q ≤ n) (hn : p ≠ q) : slt n T p q ∨ slt n T q p := slt_tri (n - p) p q (Nat.le_refl _) hp hq hn
theorem slt_asymm_aux {n : Nat} {T : Nat → Nat} : ∀ (d p q : Nat), n - p ≤ d → slt n T p q → slt n T q p → False := by
  intro d
  induction d with
  | zero =>
    intro p q hd h1 h2
    have := slt_lt h2
    omega
  | succ d ih =>
    intro p q hd h1 h2
    have hq := slt_lt h1
    have hp := slt_lt h2
    rw [slt_head (by omega) (by omega)] at h1 h2
    rcases h1 with h1 | ⟨h1, g1⟩ <;> rcases h2 with h2 | ⟨h2, g2⟩
    · omega
    · omega
    · omega
    · exact ih (p + 1) (q + 1) (by omega) g1 g2
theorem slt_asymm {n : Nat} {T : Nat → Nat} {p q : Nat} (h1 : slt n T p q) (h2 : slt n T q p) : False := slt_asymm_aux (n - p) p q (Nat.le_refl _) h1 h2
theorem slt_le {n : Nat} {T : Nat → Nat} {p q : Nat} (h : slt n T p q) : p ≤ n := by
  obtain ⟨k, h1, h2, h3⟩ := h
  omega
theorem slt_trans_aux {n : Nat} {T : Nat → Nat} : ∀ (d p q r : Nat), n - p ≤ d → slt n T p q → slt n T q r → slt n T p r := by
  intro d
  induction d with
  | zero =>
    intro p q r hd h1 h2
    have hp := slt_le h1
    have : p = n := by omega
    subst this
    exact slt_end (slt_lt h2)
  | succ d ih =>
    intro p q r hd h1 h2
    have hp := slt_le h1
    have hq := slt_lt h1
    have hr := slt_lt h2
    by_cases h : p = n
    · subst h
      exact slt_end hr
    · rw [slt_head (by omega) (by omega)] at h1 h2 ⊢
      rcases h1 with h1 | ⟨h1, g1⟩ <;> rcases h2 with h2 | ⟨h2, g2⟩
      · exact Or.inl (by omega)
      · exact Or.inl (by omega)
      · exact Or.inl (by omega)
      · exact Or.inr ⟨by omega, ih (p + 1) (q + 1) (r + 1) (by omega) g1 g2⟩
theorem slt_trans {n : Nat} {T : Nat → Nat} {p q r : Nat} (h1 : slt n T p q) (h2 : slt n T q r) : slt n T p r := slt_trans_aux (n - p) p q r (Nat.le_refl _) h1 h2
theorem slt_T {n : Nat} {T : Nat → Nat} {p q : Nat} (hp : p < n) (h : slt n T p q) : T p ≤ T q := by
  have hq := slt_lt h
  rw [slt_head hp hq] at h
  omega
/-- of two suffixes with one letter the falling one is less -/
theorem slt_LS {n : Nat} {T : Nat → Nat} : ∀ (d p q : Nat), n - p ≤ d → p < n → T p = T q → ¬ slt n T p (p + 1) → slt n T q (q + 1) → slt n T p q := by
  intro d
  induction d with
  | zero => intro p q hd hp; omega
  | succ d ih =>
    intro p q hd hp hT hL hS
    have hq1 := slt_lt hS
    by_cases hpq : p = q
    · subst hpq; exact absurd hS hL
    rcases slt_total (T := T) (Nat.le_of_lt hp) (Nat.le_of_lt (show q < n by omega)) hpq with h | h
    · exact h
    · exfalso
      have h0 := h
      rw [slt_head (by omega) hp] at h0
      have h1 : slt n T (q + 1) (p + 1) := by
        rcases h0 with h0 | ⟨_, h0⟩
        · omega
        · exact h0
      have hp1 := slt_lt h1
      have h2 : slt n T (p + 1) p := by
        rcases slt_total (T := T) (Nat.le_of_lt hp) (Nat.le_of_lt hp1) (by omega) with g | g
        · exact absurd g hL
        · exact g
      have e1 := slt_T (by omega) hS
      have e2 := slt_T (by omega) h1
      have e3 := slt_T (by omega) h2
      have hS' : slt n T (q + 1) (q + 1 + 1) := by
        rw [slt_head (by omega) (by omega)] at hS
        rcases hS with g | ⟨_, g⟩
        · omega
        · exact g
      have h2' : slt n T (p + 1 + 1) (p + 1) := by
        rw [slt_head (by omega) (by omega)] at h2
        rcases h2 with g | ⟨_, g⟩
        · omega
        · exact g
      exact slt_asymm h1 (ih (p + 1) (q + 1) (by omega) hp1 (by omega) (fun g => slt_asymm g h2') hS')
/-- letters and kinds: what rises and falls -/
theorem slt_fallT {n : Nat} {T : Nat → Nat} {p : Nat} (hp : p + 1 < n) (h : ¬ slt n T p (p + 1)) : T (p + 1) ≤ T p := by
  rw [slt_head (by omega) hp] at h
  omega
theorem slt_fall1 {n : Nat} {T : Nat → Nat} {p : Nat} (hp : p + 1 < n) (h : ¬ slt n T p (p + 1)) (he : T p = T (p + 1)) : ¬ slt n T (p + 1) (p + 1 + 1) := by
  rw [slt_head (by omega) hp] at h
  exact fun g => h (Or.inr ⟨he, g⟩)
theorem slt_rise1 {n : Nat} {T : Nat → Nat} {p : Nat} (h : slt n T p (p + 1)) (he : T p = T (p + 1)) : slt n T (p + 1) (p + 1 + 1) := by
  have hp := slt_lt h
  rw [slt_head (by omega) hp] at h
  rcases h with h | ⟨_, h⟩
  · omega
  · exact h
/-! counting -/
def cnt (P : Nat → Bool) : Nat → Nat
  | 0 => 0
  | n + 1 => cnt P n + (if P n then 1 else 0)
theorem cnt_le {P Q : Nat → Bool} : ∀ (n : Nat), (∀ i, i < n → P i = true → Q i = true) → cnt P n ≤ cnt Q n := by
  intro n
  induction n with
  | zero => intro _; exact Nat.le_refl _
  | succ n ih =>
    intro h
    have h1 := ih (fun i hi => h i (by omega))
    have h2 := h n (by omega)
    simp only [cnt]
    by_cases hP : P n = true
    · rw [if_pos hP, if_pos (h2 hP)]; omega
    · rw [if_neg hP]; omega
theorem cnt_eq {P Q : Nat → Bool} (n : Nat) (h : ∀ i, i < n → P i = Q i) : cnt P n = cnt Q n := by
  refine Nat.le_antisymm (cnt_le n fun i hi hp => ?_) (cnt_le n fun i hi hp => ?_)
  · rw [← h i hi]; exact hp
  · rw [h i hi]; exact hp
theorem cnt_lt {P Q : Nat → Bool} : ∀ (n x : Nat), (∀ i, i < n → P i = true → Q i = true) → x < n → P x = false → Q x = true → cnt P n < cnt Q n := by
  intro n
  induction n with
  | zero => intro x _ hx; omega
  | succ n ih =>
    intro x h hx hp hq
    simp only [cnt]
    by_cases hxn : x = n
    · subst hxn
      have h1 := cnt_le x (fun i hi => h i (by omega))
      rw [hp, hq]
      simp
      omega
    · have h1 := ih x (fun i hi => h i (by omega)) (by omega) hp hq
      have h2 := h n (by omega)
      by_cases hP : P n = true
      · rw [if_pos hP, if_pos (h2 hP)]; omega
      · rw [if_neg hP]; omega
/-- one more is counted -/
theorem cnt_add {P Q : Nat → Bool} : ∀ (n x : Nat), x < n → P x = false → Q x = true → (∀ i, i < n → i ≠ x → P i = Q i) → cnt Q n = cnt P n + 1 := by
  intro n
  induction n with
  | zero => intro x hx; omega
  | succ n ih =>
    intro x hx hp hq h
    simp only [cnt]
    by_cases hxn : x = n
    · subst hxn
      have h1 := cnt_eq x (fun i hi => h i (by omega) (by omega))
      rw [hp, hq, h1]
      simp
    · have h1 := ih x (by omega) hp hq (fun i hi => h i (by omega))
      have h2 := h n (by omega) (fun e => hxn e.symm)
      rw [h1, h2]
      omega
theorem cnt_split {P Q R : Nat → Bool} : ∀ (n : Nat), (∀ i, i < n → R i = (P i || Q i) ∧ (P i && Q i) = false) → cnt R n = cnt P n + cnt Q n := by
  intro n
  induction n with
  | zero => intro _; rfl
  | succ n ih =>
    intro h
    have h1 := ih (fun i hi => h i (by omega))
    obtain ⟨h2, h3⟩ := h n (by omega)
    simp only [cnt]
    rw [h1, h2]
    cases hP : P n <;> cases hQ : Q n <;> rw [hP, hQ] at h3 <;> simp at h3 ⊢ <;> omega
theorem cnt_le_n (P : Nat → Bool) : ∀ (n : Nat), cnt P n ≤ n := by
  intro n
  induction n with
  | zero => exact Nat.le_refl _
  | succ n ih =>
    simp only [cnt]
    split <;> omega
theorem cnt_true {P : Nat → Bool} (n : Nat) (h : ∀ i, i < n → P i = true) : cnt P n = n := by
  induction n with
  | zero => rfl
  | succ n ih =>
    simp only [cnt]
    rw [ih (fun i hi => h i (by omega)), if_pos (h n (by omega))]
theorem cnt_false {P : Nat → Bool} (n : Nat) (h : ∀ i, i < n → P i = false) : cnt P n = 0 := by
  induction n with
  | zero => rfl
  | succ n ih =>
    simp only [cnt]
    rw [ih (fun i hi => h i (by omega)), h n (by omega)]
    rfl
