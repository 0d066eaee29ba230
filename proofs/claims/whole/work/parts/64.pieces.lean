/-! TURNS, PIECES, NAMES -/
def LMx (n : Nat) (S : Nat → Bool) (q : Nat) : Bool := decide (0 < q ∧ q < n) && S q && !S (q - 1)
theorem LMx_iff {n : Nat} {S : Nat → Bool} {q : Nat} : LMx n S q = true ↔ 0 < q ∧ q < n ∧ S q = true ∧ S (q - 1) = false := by
  unfold LMx
  simp only [Bool.and_eq_true, decide_eq_true_eq, Bool.not_eq_true']
  constructor
  · rintro ⟨⟨⟨a, b⟩, c⟩, d⟩; exact ⟨a, b, c, d⟩
  · rintro ⟨a, b, c, d⟩; exact ⟨⟨⟨a, b⟩, c⟩, d⟩
theorem slt_move {n : Nat} {T : Nat → Nat} {q : Nat} : ∀ (d p : Nat), (∀ i, i < d → p + i < n ∧ q + i < n ∧ T (p + i) = T (q + i)) → slt n T (p + d) (q + d) → slt n T p q := by
  intro d p h hs
  obtain ⟨k, h1, h2, h3⟩ := hs
  refine ⟨d + k, fun i hi => ?_, by omega, ?_⟩
  · by_cases e : i < d
    · exact h i e
    · have := h1 (i - d) (by omega)
      rw [show p + d + (i - d) = p + i by omega, show q + d + (i - d) = q + i by omega] at this
      exact this
  · rw [show p + (d + k) = p + d + k by omega, show q + (d + k) = q + d + k by omega]
    exact h3
theorem slt_moved {n : Nat} {T : Nat → Nat} {q : Nat} : ∀ (d p : Nat), (∀ i, i < d → p + i < n ∧ q + i < n ∧ T (p + i) = T (q + i)) → slt n T p q → slt n T (p + d) (q + d) := by
  intro d
  induction d with
  | zero => intro p _ h; exact h
  | succ d ih =>
    intro p h hs
    have h1 := ih p (fun i hi => h i (by omega)) hs
    have h2 := h d (by omega)
    rw [slt_head h2.1 h2.2.1] at h1
    rcases h1 with g | ⟨_, g⟩
    · omega
    · exact g
section PIECE
variable {n : Nat} {T : Nat → Nat} {S : Nat → Bool}
/-- a row of all places, by their suffixes -/
def isSA (n : Nat) (T : Nat → Nat) (o : Nat → Option Nat) : Prop := (∀ j, j < n → ∃ q, q < n ∧ o j = some q) ∧ (∀ j j' q q', j < j' → j' < n → o j = some q → o j' = some q' → slt n T q q') ∧ ∀ q, q < n → ∃ j, j < n ∧ o j = some q
theorem seeds_LM1 {q : Nat} (h : LMx n S q = true) : S q = true := (LMx_iff.mp h).2.2.1
theorem seeds_LM2 (q : Nat) (h1 : q + 1 < n) (h2 : S q = false) (h3 : S (q + 1) = true) : LMx n S (q + 1) = true := LMx_iff.mpr ⟨by omega, h1, h3, by simpa using h2⟩
/-- turns in order: all is in order -/
theorem ind_sa (hSd : ∀ p, p < n → (S p = true ↔ slt n T p (p + 1))) {K : Nat} (hK : ∀ p, p < n → T p < K) {m : Nat} {sds : Nat → Nat} (hsd : seeds n (LMx n S) m sds) (hs : ∀ i i', i < i' → i' < m → slt n T (sds i) (sds i')) :
    isSA n T (indx n T S m sds) := by
  have hSf : ∀ p, p < n → S p = false → ¬ slt n T p (p + 1) := by
    intro p hp hf g
    rw [(hSd p hp).mpr g] at hf
    exact absurd hf (by simp)
  have P1 : ∀ p q, p < n → q < n → T p < T q → p = q ∨ slt n T p q := fun p q hp hq h => Or.inr ((slt_head hp hq).mpr (Or.inl h))
  have P2 : ∀ p q, p < n → q < n → T p = T q → S p = false → S q = true → p = q ∨ slt n T p q := fun p q hp hq h h1 h2 => Or.inr (slt_LS (n - p) p q (Nat.le_refl _) hp h (hSf p hp h1) ((hSd q hq).mp h2))
  have P3 : ∀ p q, p + 1 < n → q + 1 < n → T p = T q → (p + 1 = q + 1 ∨ slt n T (p + 1) (q + 1)) → (p = q ∨ slt n T p q) := by
    intro p q hp hq hT h
    rcases h with h | h
    · exact Or.inl (by omega)
    · exact Or.inr ((slt_head (by omega) (by omega)).mpr (Or.inr ⟨hT, h⟩))
  obtain ⟨a1, a2, a3, a4⟩ := ind_ok (LM := LMx n S) (r := fun p q => p = q ∨ slt n T p q) (r2 := fun p q => p = q ∨ slt n T p q) hSd (fun q h => seeds_LM1 h) seeds_LM2 hK hsd (fun i i' h1 h2 _ => Or.inr (hs i i' h1 h2)) P1 P2
    (fun p q hp hq hT _ _ h => P3 p q hp hq hT h)
    (fun q hq hT _ => Or.inr ((slt_head (by omega) (by omega)).mpr (Or.inr ⟨hT, by rw [show n - 1 + 1 = n by omega]; exact slt_end hq⟩))) P1 P2 (fun p q hp hq hT _ _ h => P3 p q hp hq hT h) (fun _ _ _ _ _ _ h => h)
  refine ⟨a1, fun j j' q q' hjj hj' g g' => ?_, a4⟩
  rcases a3 j j' q q' hjj hj' g g' with h | h
  · subst h
    have := a2 j j' q (by omega) hj' g g'
    omega
  · exact h
/-- a piece: from a place to the next turn behind it -/
def piece (n : Nat) (S : Nat → Bool) (p d : Nat) : Prop := 0 < d ∧ p + d < n ∧ LMx n S (p + d) = true ∧ ∀ i, 0 < i → i < d → LMx n S (p + i) = false
def samep (n : Nat) (T : Nat → Nat) (S : Nat → Bool) (p q : Nat) : Prop := ∃ d, piece n S p d ∧ piece n S q d ∧ ∀ i, i ≤ d → T (p + i) = T (q + i) ∧ S (p + i) = S (q + i)
theorem piece_one {p d d' : Nat} (h : piece n S p d) (h' : piece n S p d') : d = d' := by
  rcases Nat.lt_trichotomy d d' with g | g | g
  · have := h'.2.2.2 d h.1 g; rw [h.2.2.1] at this; exact absurd this (by simp)
  · exact g
  · have := h.2.2.2 d' h'.1 g; rw [h'.2.2.1] at this; exact absurd this (by simp)
theorem samep.symm {p q : Nat} (h : samep n T S p q) : samep n T S q p := by
  obtain ⟨d, h1, h2, h3⟩ := h
  exact ⟨d, h2, h1, fun i hi => ⟨(h3 i hi).1.symm, (h3 i hi).2.symm⟩⟩
theorem samep.trans {p q x : Nat} (h : samep n T S p q) (h' : samep n T S q x) : samep n T S p x := by
  obtain ⟨d, h1, h2, h3⟩ := h
  obtain ⟨d', h1', h2', h3'⟩ := h'
  have := piece_one h2 h1'
  subst this
  exact ⟨d, h1, h2', fun i hi => ⟨(h3 i hi).1.trans (h3' i hi).1, (h3 i hi).2.trans (h3' i hi).2⟩⟩
theorem kind_rec (hSd : ∀ p, p < n → (S p = true ↔ slt n T p (p + 1))) {p : Nat} (hp : p + 1 < n) : S p = true ↔ T p < T (p + 1) ∨ (T p = T (p + 1) ∧ S (p + 1) = true) := by
  rw [hSd p (by omega), hSd (p + 1) hp, slt_head (by omega) hp]
theorem piece_like {p x d : Nat} (hp : piece n S p d) (hx : x + d < n) (hS : ∀ i, i ≤ d → S (p + i) = S (x + i)) : piece n S x d := by
  have hL : ∀ i, 0 < i → i ≤ d → LMx n S (x + i) = LMx n S (p + i) := by
    intro i h0 hi
    have e1 := hS i hi
    have e2 := hS (i - 1) (by omega)
    have hpn := hp.2.1
    unfold LMx
    rw [show x + i - 1 = x + (i - 1) by omega, show p + i - 1 = p + (i - 1) by omega, e1, e2]
    have a1 : (0 < x + i ∧ x + i < n) := by omega
    have a2 : (0 < p + i ∧ p + i < n) := by omega
    simp only [a1, a2]
  exact ⟨hp.1, hx, by rw [hL d hp.1 (Nat.le_refl _)]; exact hp.2.2.1, fun i h0 hi => by rw [hL i h0 (by omega)]; exact hp.2.2.2 i h0 hi⟩
/-- letters alike to the turn that ends the piece, which is a turn for both: pieces alike -/
theorem samep_of (hSd : ∀ p, p < n → (S p = true ↔ slt n T p (p + 1))) {p x d : Nat} (hp : piece n S p d) (hx : x + d < n) (hT : ∀ i, i ≤ d → T (p + i) = T (x + i)) (hS : S (x + d) = true) : samep n T S p x := by
  have hSp : S (p + d) = true := (LMx_iff.mp hp.2.2.1).2.2.1
  have key : ∀ k, k ≤ d → S (p + (d - k)) = S (x + (d - k)) := by
    intro k
    induction k with
    | zero => intro _; rw [Nat.sub_zero, hSp, hS]
    | succ k ih =>
      intro hk
      have h1 := ih (by omega)
      have h2 := kind_rec hSd (p := p + (d - (k + 1))) (by have := hp.2.1; omega)
      have h3 := kind_rec hSd (p := x + (d - (k + 1))) (by omega)
      rw [show p + (d - (k + 1)) + 1 = p + (d - k) by omega] at h2
      rw [show x + (d - (k + 1)) + 1 = x + (d - k) by omega, ← h1, ← hT (d - (k + 1)) (by omega), ← hT (d - k) (by omega)] at h3
      have h4 : S (p + (d - (k + 1))) = true ↔ S (x + (d - (k + 1))) = true := h2.trans h3.symm
      cases ha : S (p + (d - (k + 1))) <;> cases hb : S (x + (d - (k + 1))) <;> simp [ha, hb] at h4 ⊢
  have hall : ∀ i, i ≤ d → S (p + i) = S (x + i) := by
    intro i hi
    have := key (d - i) (by omega)
    rw [show d - (d - i) = i by omega] at this
    exact this
  exact ⟨d, hp, piece_like hp hx hall, fun i hi => ⟨hT i hi, hall i hi⟩⟩
/-- what is beside one is beside all that are like it -/
theorem samep_lt (hSd : ∀ p, p < n → (S p = true ↔ slt n T p (p + 1))) {p q x : Nat} (h : samep n T S p q) (hx : slt n T p x) (hn : ¬ samep n T S p x) : slt n T q x := by
  obtain ⟨d, h1, h2, h3⟩ := h
  have hx0 := hx
  obtain ⟨k, g1, g2, g3⟩ := hx
  have hd1 := h1.2.1
  have hd2 := h2.2.1
  by_cases hk : k ≤ d
  · refine ⟨k, fun i hi => ⟨by omega, (g1 i hi).2.1, (h3 i (by omega)).1.symm.trans (g1 i hi).2.2⟩, g2, Or.inr ⟨by omega, ?_⟩⟩
    rcases g3 with g | g
    · omega
    · rw [← (h3 k hk).1]; exact g.2
  · exfalso
    have hxd := (g1 d (by omega)).2.1
    have hT : ∀ i, i ≤ d → T (p + i) = T (x + i) := fun i hi => (g1 i (by omega)).2.2
    refine hn (samep_of hSd h1 hxd hT ?_)
    have hs := slt_moved d p (fun i hi => g1 i (by omega)) hx0
    cases hz : S (x + d) with
    | true => rfl
    | false =>
      have hSp : S (p + d) = true := (LMx_iff.mp h1.2.2.1).2.2.1
      have hf : ¬ slt n T (x + d) (x + d + 1) := fun g => by rw [(hSd _ hxd).mpr g] at hz; exact absurd hz (by simp)
      exact absurd (slt_LS _ (x + d) (p + d) (Nat.le_refl _) hxd (hT d (Nat.le_refl _)).symm hf ((hSd _ hd1).mp hSp)) (fun g => slt_asymm g hs)
theorem samep_gt (hSd : ∀ p, p < n → (S p = true ↔ slt n T p (p + 1))) {p q x : Nat} (h : samep n T S p q) (hx : slt n T x p) (hn : ¬ samep n T S p x) : slt n T x q := by
  obtain ⟨d, h1, h2, h3⟩ := h
  obtain ⟨k, g1, g2, g3⟩ := hx
  have hd1 := h1.2.1
  have hd2 := h2.2.1
  by_cases hk : k ≤ d
  · refine ⟨k, fun i hi => ⟨(g1 i hi).1, by omega, (g1 i hi).2.2.trans (h3 i (by omega)).1⟩, by omega, ?_⟩
    rcases g3 with g | g
    · exact Or.inl g
    · exact Or.inr ⟨g.1, by rw [← (h3 k hk).1]; exact g.2⟩
  · have hxd := (g1 d (by omega)).1
    have hT : ∀ i, i ≤ d → T (p + i) = T (x + i) := fun i hi => (g1 i (by omega)).2.2.symm
    cases hz : S (x + d) with
    | true => exact absurd (samep_of hSd h1 hxd hT hz) hn
    | false =>
      have hSq : S (q + d) = true := (LMx_iff.mp h2.2.2.1).2.2.1
      have hf : ¬ slt n T (x + d) (x + d + 1) := fun g => by rw [(hSd _ hxd).mpr g] at hz; exact absurd hz (by simp)
      refine slt_move d x (fun i hi => ⟨(g1 i (by omega)).1, by omega, (g1 i (by omega)).2.2.trans (h3 i (by omega)).1⟩) ?_
      exact slt_LS _ (x + d) (q + d) (Nat.le_refl _) hxd ((hT d (Nat.le_refl _)).symm.trans (h3 d (Nat.le_refl _)).1) hf ((hSd _ hd2).mp hSq)
/-- turns in any order: the pieces are in order -/
theorem ind_pc (hSd : ∀ p, p < n → (S p = true ↔ slt n T p (p + 1))) {K : Nat} (hK : ∀ p, p < n → T p < K) {m : Nat} {sds : Nat → Nat} (hsd : seeds n (LMx n S) m sds) :
    (∀ j, j < n → ∃ q, q < n ∧ indx n T S m sds j = some q) ∧ (∀ j j' q, j < n → j' < n → indx n T S m sds j = some q → indx n T S m sds j' = some q → j = j') ∧
    (∀ j j' q q', j < j' → j' < n → indx n T S m sds j = some q → indx n T S m sds j' = some q' → slt n T q q' ∨ samep n T S q q') ∧ (∀ q, q < n → ∃ j, j < n ∧ indx n T S m sds j = some q) := by
  have hSf : ∀ p, p < n → S p = false → ¬ slt n T p (p + 1) := by
    intro p hp hf g
    rw [(hSd p hp).mpr g] at hf
    exact absurd hf (by simp)
  have H1 : ∀ p q, p < n → q < n → T p < T q → slt n T p q := fun p q hp hq h => (slt_head hp hq).mpr (Or.inl h)
  have H2 : ∀ p q, p < n → q < n → T p = T q → S p = false → S q = true → slt n T p q := fun p q hp hq h h1 h2 => slt_LS (n - p) p q (Nat.le_refl _) hp h (hSf p hp h1) ((hSd q hq).mp h2)
  have H3 : ∀ p q, p + 1 < n → q + 1 < n → T p = T q → slt n T (p + 1) (q + 1) → slt n T p q := fun p q hp hq hT h => (slt_head (by omega) (by omega)).mpr (Or.inr ⟨hT, h⟩)
  -- one letter ahead of two pieces that are alike
  have H4 : ∀ p q, T p = T q → S p = S q → LMx n S (p + 1) = false → LMx n S (q + 1) = false → samep n T S (p + 1) (q + 1) → samep n T S p q := by
    rintro p q hT hS e1 e2 ⟨d, h1, h2, h3⟩
    refine ⟨d + 1, ⟨by omega, by have := h1.2.1; omega, by rw [show p + (d + 1) = p + 1 + d by omega]; exact h1.2.2.1, fun i h0 hi => ?_⟩, ⟨by omega, by have := h2.2.1; omega, by rw [show q + (d + 1) = q + 1 + d by omega]; exact h2.2.2.1, fun i h0 hi => ?_⟩, fun i hi => ?_⟩
    · by_cases e : i = 1
      · subst e; exact e1
      · have := h1.2.2.2 (i - 1) (by omega) (by omega)
        rw [show p + 1 + (i - 1) = p + i by omega] at this
        exact this
    · by_cases e : i = 1
      · subst e; exact e2
      · have := h2.2.2.2 (i - 1) (by omega) (by omega)
        rw [show q + 1 + (i - 1) = q + i by omega] at this
        exact this
    · cases i with
      | zero => exact ⟨hT, hS⟩
      | succ i =>
        have := h3 i (by omega)
        rw [show p + 1 + i = p + (i + 1) by omega, show q + 1 + i = q + (i + 1) by omega] at this
        exact this
  have H5 : ∀ p q, T p = T q → S p = S q → LMx n S (p + 1) = true → LMx n S (q + 1) = true → T (p + 1) = T (q + 1) → samep n T S p q := by
    intro p q hT hS e1 e2 hT1
    refine ⟨1, ⟨by omega, (LMx_iff.mp e1).2.1, e1, fun i h0 hi => by omega⟩, ⟨by omega, (LMx_iff.mp e2).2.1, e2, fun i h0 hi => by omega⟩, fun i hi => ?_⟩
    by_cases e : i = 0
    · subst e; exact ⟨hT, hS⟩
    · have : i = 1 := by omega
      subst this
      exact ⟨hT1, by rw [seeds_LM1 e1, seeds_LM1 e2]⟩
  have nLf : ∀ p, S p = false → LMx n S p = false := by
    intro p h
    cases hz : LMx n S p with
    | false => rfl
    | true => rw [seeds_LM1 hz] at h; exact absurd h (by simp)
  have nLs : ∀ p, S p = true → LMx n S (p + 1) = false := by
    intro p h
    cases hz : LMx n S (p + 1) with
    | false => rfl
    | true =>
      have := (LMx_iff.mp hz).2.2.2
      rw [show p + 1 - 1 = p by omega, h] at this
      exact absurd this (by simp)
  obtain ⟨a1, a2, a3, a4⟩ := ind_ok (LM := LMx n S) (r := fun p q => slt n T p q ∨ p = q ∨ (S p = false ∧ S q = false ∧ samep n T S p q) ∨ (LMx n S p = true ∧ LMx n S q = true ∧ T p = T q)) (r2 := fun p q => slt n T p q ∨ p = q ∨ samep n T S p q) hSd (fun q h => seeds_LM1 h) seeds_LM2 hK hsd
    (fun i i' h1 h2 hT => Or.inr (Or.inr (Or.inr ⟨(hsd.1 i (by omega)).2, (hsd.1 i' h2).2, hT⟩)))
    (fun p q hp hq h => Or.inl (H1 p q hp hq h)) (fun p q hp hq h h1 h2 => Or.inl (H2 p q hp hq h h1 h2))
    (fun p q hp hq hT h1 h2 h => by
      rcases h with h | h | ⟨g1, g2, g3⟩ | ⟨g1, g2, g3⟩
      · exact Or.inl (H3 p q hp hq hT h)
      · exact Or.inr (Or.inl (by omega))
      · exact Or.inr (Or.inr (Or.inl ⟨h1, h2, H4 p q hT (h1.trans h2.symm) (nLf _ g1) (nLf _ g2) g3⟩))
      · exact Or.inr (Or.inr (Or.inl ⟨h1, h2, H5 p q hT (h1.trans h2.symm) g1 g2 g3⟩)))
    (fun q hq hT _ => Or.inl ((slt_head (by omega) (by omega)).mpr (Or.inr ⟨hT, by rw [show n - 1 + 1 = n by omega]; exact slt_end hq⟩)))
    (fun p q hp hq h => Or.inl (H1 p q hp hq h)) (fun p q hp hq h h1 h2 => Or.inl (H2 p q hp hq h h1 h2))
    (fun p q hp hq hT h1 h2 h => by
      rcases h with h | h | h
      · exact Or.inl (H3 p q hp hq hT h)
      · exact Or.inr (Or.inl (by omega))
      · exact Or.inr (Or.inr (H4 p q hT (h1.trans h2.symm) (nLs p h1) (nLs q h2) h)))
    (fun p q hp hq h1 h2 h => by
      rcases h with h | h | ⟨_, _, h⟩ | ⟨h, _⟩
      · exact Or.inl h
      · exact Or.inr (Or.inl h)
      · exact Or.inr (Or.inr h)
      · rw [seeds_LM1 h] at h1; exact absurd h1 (by simp))
  refine ⟨a1, a2, fun j j' q q' hjj hj' g g' => ?_, a4⟩
  rcases a3 j j' q q' hjj hj' g g' with h | h | h
  · exact Or.inl h
  · subst h
    have := a2 j j' q (by omega) hj' g g'
    omega
  · exact Or.inr h
end PIECE
