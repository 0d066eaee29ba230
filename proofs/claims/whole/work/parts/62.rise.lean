/-! INDUCED SORTING, the rising pass -/
def rput (T : Nat → Nat) (p : Nat) (s : sst) : sst := (fup s.1 (s.2 (T p) - 1) (some p), fup s.2 (T p) (s.2 (T p) - 1))
theorem rput_1 (T : Nat → Nat) (p : Nat) (s : sst) : (rput T p s).1 = fup s.1 (s.2 (T p) - 1) (some p) := rfl
theorem rput_2 (T : Nat → Nat) (p : Nat) (s : sst) : (rput T p s).2 = fup s.2 (T p) (s.2 (T p) - 1) := rfl
def rstep (T : Nat → Nat) (S : Nat → Bool) (i : Nat) (s : sst) : sst :=
  match s.1 i with
  | some (p + 1) => if S p then rput T p s else s
  | _ => s
/-- k slots have been looked at, from the last one down -/
def risex (T : Nat → Nat) (S : Nat → Bool) (n : Nat) (s0 : sst) : Nat → sst
  | 0 => s0
  | k + 1 => rstep T S (n - 1 - k) (risex T S n s0 k)
/-- a slot whose place is the last one -/
def rvd (n : Nat) (T : Nat → Nat) (S : Nat → Bool) (cu : Nat → Nat) (j : Nat) : Prop := ∃ c, (bsx n T c ≤ j ∧ j < bsx n T c + Lbx n T S c) ∨ (cu c ≤ j ∧ j < bsx n T (c + 1))
def RJ (n : Nat) (T : Nat → Nat) (S : Nat → Bool) (r : Nat → Nat → Prop) (s : sst) (pl : Nat → Bool) : Prop :=
  (∀ c, s.2 c + cnt (fun p => (decide (T p = c) && S p) && pl p) n = bsx n T (c + 1)) ∧
  (∀ c j, bsx n T c ≤ j → j < bsx n T c + Lbx n T S c → ∃ q, s.1 j = some q ∧ q < n ∧ T q = c ∧ S q = false) ∧
  (∀ c j, s.2 c ≤ j → j < bsx n T (c + 1) → ∃ q, s.1 j = some q ∧ q < n ∧ T q = c ∧ S q = true ∧ pl q = true) ∧
  (∀ q, q < n → S q = false → ∃ j, s.1 j = some q ∧ bsx n T (T q) ≤ j ∧ j < bsx n T (T q) + Lbx n T S (T q)) ∧
  (∀ q, q < n → S q = true → pl q = true → ∃ j, s.1 j = some q ∧ s.2 (T q) ≤ j ∧ j < bsx n T (T q + 1)) ∧
  (∀ j j' q, rvd n T S s.2 j → rvd n T S s.2 j' → s.1 j = some q → s.1 j' = some q → j = j') ∧
  (∀ j j' q q', rvd n T S s.2 j → rvd n T S s.2 j' → j < j' → s.1 j = some q → s.1 j' = some q' → r q q')
def RG (n : Nat) (T : Nat → Nat) (S : Nat → Bool) (i : Nat) (s : sst) (pl : Nat → Bool) : Prop :=
  (∀ q, q < n → S q = true → (pl q = true ↔ ∃ j, i ≤ j ∧ rvd n T S s.2 j ∧ s.1 j = some (q + 1))) ∧ ∀ j, i ≤ j → j < n → rvd n T S s.2 j
section RISE
variable {n : Nat} {T : Nat → Nat} {S : Nat → Bool} {r : Nat → Nat → Prop}
theorem RJ.cuS {s : sst} {pl : Nat → Bool} (h : RJ n T S r s pl) (c : Nat) : bsx n T c + Lbx n T S c ≤ s.2 c ∧ s.2 c ≤ bsx n T (c + 1) := by
  have h1 := h.1 c
  have h2 : cnt (fun p => (decide (T p = c) && S p) && pl p) n ≤ Sbx n T S c := by
    apply cnt_le
    intro i hi hp
    rw [Bool.and_eq_true] at hp
    exact hp.1
  have h3 := bsx_succ n T S c
  omega
/-- what stands in a slot whose place is the last one -/
theorem RJ.at {s : sst} {pl : Nat → Bool} (h : RJ n T S r s pl) {j : Nat} (hv : rvd n T S s.2 j) : ∃ q, s.1 j = some q ∧ q < n ∧ bsx n T (T q) ≤ j ∧ j < bsx n T (T q + 1) ∧ ((S q = false ∧ j < bsx n T (T q) + Lbx n T S (T q)) ∨ (S q = true ∧ pl q = true ∧ s.2 (T q) ≤ j)) := by
  obtain ⟨c, g | g⟩ := hv
  · obtain ⟨q, h1, h2, h3, h4⟩ := h.2.1 c j g.1 g.2
    subst h3
    have := bsx_succ n T S (T q)
    exact ⟨q, h1, h2, g.1, by omega, Or.inl ⟨h4, g.2⟩⟩
  · obtain ⟨q, h1, h2, h3, h4, h5⟩ := h.2.2.1 c j g.1 g.2
    subst h3
    have := h.cuS (T q)
    exact ⟨q, h1, h2, by omega, g.2, Or.inr ⟨h4, h5, g.1⟩⟩
theorem RJ.put {s : sst} {pl : Nat → Bool} (h : RJ n T S r s pl)
    (P1 : ∀ p q, p < n → q < n → T p < T q → r p q) (P2 : ∀ p q, p < n → q < n → T p = T q → S p = false → S q = true → r p q)
    {p : Nat} (hp : p < n) (hS : S p = true) (hpl : pl p = false) (hr1 : ∀ j q, s.2 (T p) ≤ j → rvd n T S s.2 j → s.1 j = some q → T q = T p → S q = true → pl q = true → r p q) :
    RJ n T S r (rput T p s) (fup pl p true) ∧ bsx n T (T p) + Lbx n T S (T p) < s.2 (T p) ∧ (∀ j, rvd n T S (rput T p s).2 j ↔ rvd n T S s.2 j ∨ j = s.2 (T p) - 1) := by
  have hcu := h.cuS (T p)
  have hsu := bsx_succ n T S (T p)
  have hlt : bsx n T (T p) + Lbx n T S (T p) < s.2 (T p) := by
    have h1 := h.1 (T p)
    have h2 : cnt (fun q => (decide (T q = T p) && S q) && pl q) n < Sbx n T S (T p) := by
      apply cnt_lt n p
      · intro i hi hq
        rw [Bool.and_eq_true] at hq
        exact hq.1
      · exact hp
      · simp [hpl]
      · simp [hS]
    omega
  have hnv : ¬ rvd n T S s.2 (s.2 (T p) - 1) := by
    intro hv
    obtain ⟨q, h1, h2, h3, h4, h5⟩ := h.at hv
    have he : T q = T p := bsx_one h3 h4 (by omega) (by omega)
    rw [he] at h5
    omega
  have hcuS : (rput T p s).2 (T p) = s.2 (T p) - 1 := fup_self _ _ _
  have hcuN : ∀ c, c ≠ T p → (rput T p s).2 c = s.2 c := fun c e => fup_ne _ _ e
  have hvd : ∀ j, rvd n T S (rput T p s).2 j ↔ rvd n T S s.2 j ∨ j = s.2 (T p) - 1 := by
    intro j
    constructor
    · rintro ⟨c, g | g⟩
      · exact Or.inl ⟨c, Or.inl g⟩
      · by_cases e : c = T p
        · subst e
          rw [hcuS] at g
          by_cases e2 : j = s.2 (T p) - 1
          · exact Or.inr e2
          · exact Or.inl ⟨T p, Or.inr ⟨by omega, g.2⟩⟩
        · rw [hcuN c e] at g
          exact Or.inl ⟨c, Or.inr g⟩
    · rintro (⟨c, g | g⟩ | g)
      · exact ⟨c, Or.inl g⟩
      · by_cases e : c = T p
        · subst e
          exact ⟨T p, Or.inr ⟨by rw [hcuS]; omega, g.2⟩⟩
        · exact ⟨c, Or.inr ⟨by rw [hcuN c e]; exact g.1, g.2⟩⟩
      · subst g
        exact ⟨T p, Or.inr ⟨by rw [hcuS]; exact Nat.le_refl _, by omega⟩⟩
  have hself : (rput T p s).1 (s.2 (T p) - 1) = some p := fup_self _ _ _
  have hne : ∀ j, j ≠ s.2 (T p) - 1 → (rput T p s).1 j = s.1 j := fun j e => fup_ne _ _ e
  have hpl2 : ∀ q, pl q = true → fup pl p true q = true := by
    intro q hq
    by_cases e : q = p
    · subst e; rw [fup_self]
    · rw [fup_ne _ _ e]; exact hq
  obtain ⟨hA, hB, hB2, hC, hC2, hE, hF⟩ := id h
  have hold : ∀ j q, rvd n T S (rput T p s).2 j → (rput T p s).1 j = some q → (j = s.2 (T p) - 1 ∧ q = p) ∨ (j ≠ s.2 (T p) - 1 ∧ rvd n T S s.2 j ∧ s.1 j = some q) := by
    intro j q hv hj
    by_cases e : j = s.2 (T p) - 1
    · subst e
      rw [hself] at hj
      exact Or.inl ⟨rfl, (Option.some.inj hj).symm⟩
    · rw [hne j e] at hj
      refine Or.inr ⟨e, ?_, hj⟩
      rcases (hvd j).mp hv with g | g
      · exact g
      · exact absurd g e
  have hnp : ∀ j, rvd n T S s.2 j → s.1 j ≠ some p := by
    intro j hv hj
    obtain ⟨q, h1, h2, h3, h4, h5⟩ := h.at hv
    rw [hj] at h1
    have e := Option.some.inj h1
    subst e
    rcases h5 with g | g
    · rw [hS] at g; exact absurd g.1 (by simp)
    · rw [hpl] at g; exact absurd g.2.1 (by simp)
  refine ⟨⟨?_, ?_, ?_, ?_, ?_, ?_, ?_⟩, hlt, hvd⟩
  · intro c
    by_cases e : c = T p
    · subst e
      rw [hcuS, ← hA]
      have := cnt_add (P := fun q => (decide (T q = T p) && S q) && pl q) (Q := fun q => (decide (T q = T p) && S q) && fup pl p true q) n p hp (by simp [hpl]) (by simp [hS, fup_self]) (fun i hi hn => by rw [fup_ne _ _ hn])
      omega
    · rw [hcuN c e, ← hA]
      congr 1
      apply cnt_eq
      intro i hi
      by_cases e2 : i = p
      · subst e2
        have e3 : ¬ T i = c := fun q => e q.symm
        simp [e3]
      · rw [fup_ne _ _ e2]
  · intro c j h1 h2
    have e : j ≠ s.2 (T p) - 1 := fun e => hnv (e ▸ ⟨c, Or.inl ⟨h1, h2⟩⟩)
    rw [hne j e]
    exact hB c j h1 h2
  · intro c j h1 h2
    by_cases e : j = s.2 (T p) - 1
    · subst e
      have hc : T p = c := by
        by_cases e : c = T p
        · exact e.symm
        · rw [hcuN c e] at h1
          exact absurd ⟨c, Or.inr ⟨h1, h2⟩⟩ hnv
      exact ⟨p, hself, hp, hc, hS, fup_self _ _ _⟩
    · rw [hne j e]
      have h3 : s.2 c ≤ j := by
        by_cases e2 : c = T p
        · subst e2; rw [hcuS] at h1; omega
        · rw [hcuN c e2] at h1; exact h1
      obtain ⟨q, g1, g2, g3, g4, g5⟩ := hB2 c j h3 h2
      exact ⟨q, g1, g2, g3, g4, hpl2 q g5⟩
  · intro q hq hSq
    obtain ⟨j, g1, g2, g3⟩ := hC q hq hSq
    have e : j ≠ s.2 (T p) - 1 := fun e => hnv (e ▸ ⟨T q, Or.inl ⟨g2, g3⟩⟩)
    exact ⟨j, by rw [hne j e]; exact g1, g2, g3⟩
  · intro q hq hSq hplq
    by_cases e : q = p
    · subst e
      exact ⟨_, hself, by rw [hcuS]; exact Nat.le_refl _, by omega⟩
    · rw [fup_ne _ _ e] at hplq
      obtain ⟨j, g1, g2, g3⟩ := hC2 q hq hSq hplq
      have e2 : j ≠ s.2 (T p) - 1 := fun e => hnv (e ▸ ⟨T q, Or.inr ⟨g2, g3⟩⟩)
      refine ⟨j, by rw [hne j e2]; exact g1, ?_, g3⟩
      by_cases e3 : T q = T p
      · rw [e3, hcuS]; rw [e3] at g2; omega
      · rw [hcuN _ e3]; exact g2
  · intro j j' q hv hv' hj hj'
    rcases hold j q hv hj with ⟨e1, e2⟩ | ⟨e1, e0, e2⟩ <;> rcases hold j' q hv' hj' with ⟨e3, e4⟩ | ⟨e3, e5, e4⟩
    · omega
    · subst e2; exact absurd e4 (hnp j' e5)
    · subst e4; exact absurd e2 (hnp j e0)
    · exact hE j j' q e0 e5 e2 e4
  · intro j j' q q' hv hv' hjj hj hj'
    rcases hold j q hv hj with ⟨e1, e2⟩ | ⟨e1, e0, e2⟩ <;> rcases hold j' q' hv' hj' with ⟨e3, e4⟩ | ⟨e3, e5, e4⟩
    · omega
    · subst e1; subst e2
      obtain ⟨q2, h1, h2, h3, h4, h5⟩ := h.at e5
      rw [e4] at h1
      have e := Option.some.inj h1
      subst e
      have hle : T q ≤ T q' := bsx_ord (show bsx n T (T q) ≤ s.2 (T q) - 1 by omega) h4 (by omega)
      rcases Nat.lt_or_ge (T q) (T q') with g | g
      · exact P1 _ _ hp h2 g
      · have he : T q' = T q := by omega
        rcases h5 with k | k
        · rw [he] at k; omega
        · refine hr1 j' q' ?_ e5 e4 he k.1 k.2.1
          rw [he] at k; exact k.2.2
    · subst e3; subst e4
      obtain ⟨q2, h1, h2, h3, h4, h5⟩ := h.at e0
      rw [e2] at h1
      have e := Option.some.inj h1
      subst e
      have hle : T q ≤ T q' := bsx_ord h3 (show s.2 (T q') - 1 < bsx n T (T q' + 1) by omega) (by omega)
      rcases Nat.lt_or_ge (T q) (T q') with g | g
      · exact P1 _ _ h2 hp g
      · have he : T q = T q' := by omega
        rcases h5 with k | k
        · exact P2 _ _ h2 hp he k.1 hS
        · rw [he] at k; omega
    · exact hF j j' q q' e0 e5 hjj e2 e4
/-- the slot that is looked at next has its last place -/
theorem RJ.next (hSd : ∀ p, p < n → (S p = true ↔ slt n T p (p + 1))) {K : Nat} (hK : ∀ p, p < n → T p < K) {s : sst} {pl : Nat → Bool} {k : Nat} (h : RJ n T S r s pl) (hG : RG n T S (k + 1) s pl) (hk : k < n) : rvd n T S s.2 k := by
  obtain ⟨c, -, hc1, hc2⟩ := bsx_find hK hk
  by_cases hL : k < bsx n T c + Lbx n T S c
  · exact ⟨c, Or.inl ⟨hc1, hL⟩⟩
  · by_cases hcu : s.2 c ≤ k
    · exact ⟨c, Or.inr ⟨hcu, hc2⟩⟩
    · exfalso
      have hS1 : ∀ p, p < n → S p = true → p + 1 < n ∧ T p ≤ T (p + 1) := by
        intro p hp hSp
        have g := (hSd p hp).mp hSp
        exact ⟨slt_lt g, slt_T hp g⟩
      -- above the bucket all is placed
      have habove : ∀ q, q < n → S q = true → c < T q → pl q = true := by
        intro q hq hSq hcq
        have hm := bsx_mono n T (show c + 1 ≤ T q by omega)
        have hsu := bsx_succ n T S (T q)
        have hpos : 0 < Sbx n T S (T q) := by
          have := cnt_lt (P := fun _ => false) (Q := fun p => decide (T p = T q) && S p) n q (fun i _ hx => by simp at hx) hq rfl (by simp [hSq])
          have h0 : cnt (fun _ => false) n = 0 := cnt_false n (fun _ _ => rfl)
          unfold Sbx
          omega
        have hle := bsx_le n T (T q + 1)
        have hv := hG.2 (bsx n T (T q) + Lbx n T S (T q)) (by omega) (by omega)
        obtain ⟨q2, h1, h2, h3, h4, h5⟩ := h.at hv
        have he : T q2 = T q := bsx_one h3 h4 (by omega) (by omega)
        rw [he] at h5
        have hcq2 : s.2 (T q) ≤ bsx n T (T q) + Lbx n T S (T q) := by
          rcases h5 with g | g
          · omega
          · exact g.2.2
        cases hx : pl q with
        | true => rfl
        | false =>
          have h6 := h.1 (T q)
          have h7 : cnt (fun p => (decide (T p = T q) && S p) && pl p) n < Sbx n T S (T q) := by
            apply cnt_lt n q
            · intro i hi hq
              rw [Bool.and_eq_true] at hq
              exact hq.1
            · exact hq
            · simp [hx]
            · simp [hSq]
          omega
      have hall : ∀ d p, n - p ≤ d → p < n → S p = true → T p = c → pl p = true := by
        intro d
        induction d with
        | zero => intro p hd hp; omega
        | succ d ih =>
          intro p hd hp hSp hTp
          obtain ⟨hp1, hTT⟩ := hS1 p hp hSp
          refine (hG.1 p hp hSp).mpr ?_
          rcases Nat.lt_or_ge (T p) (T (p + 1)) with g | g
          · have hm := bsx_mono n T (show c + 1 ≤ T (p + 1) by omega)
            cases hS2 : S (p + 1) with
            | false =>
              obtain ⟨j, g1, g2, g3⟩ := h.2.2.2.1 (p + 1) hp1 hS2
              exact ⟨j, by omega, ⟨_, Or.inl ⟨g2, g3⟩⟩, g1⟩
            | true =>
              obtain ⟨j, g1, g2, g3⟩ := h.2.2.2.2.1 (p + 1) hp1 hS2 (habove (p + 1) hp1 hS2 (by omega))
              have := h.cuS (T (p + 1))
              exact ⟨j, by omega, ⟨_, Or.inr ⟨g2, g3⟩⟩, g1⟩
          · have he : T p = T (p + 1) := by omega
            have hS2 : S (p + 1) = true := (hSd (p + 1) hp1).mpr (slt_rise1 ((hSd p hp).mp hSp) he)
            obtain ⟨j, g1, g2, g3⟩ := h.2.2.2.2.1 (p + 1) hp1 hS2 (ih (p + 1) (by omega) hp1 hS2 (by omega))
            have he2 : T (p + 1) = c := by omega
            rw [he2] at g2
            exact ⟨j, by omega, ⟨c, Or.inr ⟨g2, by rw [he2] at g3; exact g3⟩⟩, g1⟩
      have h1 := h.1 c
      have h2 : cnt (fun p => (decide (T p = c) && S p) && pl p) n = Sbx n T S c := by
        apply cnt_eq
        intro i hi
        by_cases a : T i = c
        · cases b : S i with
          | false => simp
          | true => simp [a, hall (n - i) i (Nat.le_refl _) hi b a]
        · simp [a]
      have h3 := bsx_succ n T S c
      omega
theorem RJ.step (hSd : ∀ p, p < n → (S p = true ↔ slt n T p (p + 1))) {K : Nat} (hK : ∀ p, p < n → T p < K)
    (P1 : ∀ p q, p < n → q < n → T p < T q → r p q) (P2 : ∀ p q, p < n → q < n → T p = T q → S p = false → S q = true → r p q)
    (P4 : ∀ p q, p + 1 < n → q + 1 < n → T p = T q → S p = true → S q = true → r (p + 1) (q + 1) → r p q)
    {s : sst} {pl : Nat → Bool} {k : Nat} (h : RJ n T S r s pl) (hG : RG n T S (k + 1) s pl) (hk : k < n) : ∃ pl2, RJ n T S r (rstep T S k s) pl2 ∧ RG n T S k (rstep T S k s) pl2 := by
  have hv := RJ.next hSd hK h hG hk
  obtain ⟨x, hx1, hx2, hx3, hx4, hx5⟩ := h.at hv
  have stay : (∀ q, q < n → S q = true → x ≠ q + 1) → ∃ pl2, RJ n T S r s pl2 ∧ RG n T S k s pl2 := by
    intro hno
    refine ⟨pl, h, fun q hq hSq => (hG.1 q hq hSq).trans ⟨?_, ?_⟩, fun j hj hjn => ?_⟩
    · rintro ⟨j, g1, g2⟩
      exact ⟨j, by omega, g2⟩
    · rintro ⟨j, g1, g2, g3⟩
      refine ⟨j, ?_, g2, g3⟩
      by_cases e : j = k
      · subst e
        rw [hx1] at g3
        exact absurd (Option.some.inj g3) (hno q hq hSq)
      · omega
    · by_cases e : j = k
      · subst e; exact hv
      · exact hG.2 j (by omega) hjn
  unfold rstep
  rw [hx1]
  cases x with
  | zero => exact stay (fun q _ _ => by omega)
  | succ p =>
    have hpn : p < n := by omega
    cases hSp : S p with
    | false =>
      simp only [hSp, Bool.false_eq_true, if_false]
      refine stay (fun q _ hSq e => ?_)
      have : q = p := by omega
      subst this
      rw [hSp] at hSq
      exact absurd hSq (by simp)
    | true =>
      simp only [hSp, if_true]
      have hpl : pl p = false := by
        cases hx : pl p with
        | false => rfl
        | true =>
          obtain ⟨j, g1, g2, g3⟩ := (hG.1 p hpn hSp).mp hx
          have := h.2.2.2.2.2.1 j k _ g2 hv g3 hx1
          omega
      have hst := (hSd p hpn).mp hSp
      have hTT := slt_T hpn hst
      obtain ⟨h2, hlt, hvd⟩ := h.put P1 P2 hpn hSp hpl (fun j q hj hvj hjq hT hSq hplq => by
        have hqn : q < n := by
          obtain ⟨q2, a1, a2, -⟩ := h.at hvj
          rw [hjq] at a1
          have e := Option.some.inj a1
          omega
        obtain ⟨j2, g1, g2, g3⟩ := (hG.1 q hqn hSq).mp hplq
        have hq1 : q + 1 < n := slt_lt ((hSd q hqn).mp hSq)
        exact P4 p q hx2 hq1 hT.symm hSp hSq (h.2.2.2.2.2.2 k j2 _ _ hv g2 (by omega) hx1 g3))
      have hgt : s.2 (T p) - 1 < k := by
        have hc := h.cuS (T p)
        rcases Nat.lt_or_ge (T p) (T (p + 1)) with g | g
        · have := bsx_mono n T (show T p + 1 ≤ T (p + 1) by omega)
          omega
        · have he : T (p + 1) = T p := by omega
          have hS2 : S (p + 1) = true := (hSd (p + 1) hx2).mpr (slt_rise1 hst he.symm)
          rcases hx5 with z | z
          · rw [hS2] at z; exact absurd z.1 (by simp)
          · rw [he] at z; omega
      have hsame : ∀ j, k ≤ j → (rput T p s).1 j = s.1 j := by
        intro j hj
        rw [rput_1, fup_ne]
        omega
      refine ⟨_, h2, fun q hq hSq => ⟨fun hx => ?_, fun hx => ?_⟩, fun j hj hjn => ?_⟩
      · by_cases e : q = p
        · subst e
          exact ⟨k, Nat.le_refl _, (hvd k).mpr (Or.inl hv), by rw [hsame k (Nat.le_refl _)]; exact hx1⟩
        · rw [fup_ne _ _ e] at hx
          obtain ⟨j, g1, g2, g3⟩ := (hG.1 q hq hSq).mp hx
          exact ⟨j, by omega, (hvd j).mpr (Or.inl g2), by rw [hsame j (by omega)]; exact g3⟩
      · by_cases e : q = p
        · subst e; rw [fup_self]
        · rw [fup_ne _ _ e]
          obtain ⟨j, g1, g2, g3⟩ := hx
          rw [hsame j g1] at g3
          have g4 : rvd n T S s.2 j := by
            rcases (hvd j).mp g2 with z | z
            · exact z
            · omega
          refine (hG.1 q hq hSq).mpr ⟨j, ?_, g4, g3⟩
          by_cases e2 : j = k
          · subst e2
            rw [hx1] at g3
            have := Option.some.inj g3
            omega
          · omega
      · refine (hvd j).mpr (Or.inl ?_)
        by_cases e : j = k
        · subst e; exact hv
        · exact hG.2 j (by omega) hjn
/-- behind the rising pass: every slot is filled, all is in order -/
theorem RJ.all (hSd : ∀ p, p < n → (S p = true ↔ slt n T p (p + 1))) {K : Nat} (hK : ∀ p, p < n → T p < K)
    (P1 : ∀ p q, p < n → q < n → T p < T q → r p q) (P2 : ∀ p q, p < n → q < n → T p = T q → S p = false → S q = true → r p q)
    (P4 : ∀ p q, p + 1 < n → q + 1 < n → T p = T q → S p = true → S q = true → r (p + 1) (q + 1) → r p q)
    {s0 : sst} {pl0 : Nat → Bool} (h0 : RJ n T S r s0 pl0) (hG0 : RG n T S n s0 pl0) :
    (∀ j, j < n → ∃ q, q < n ∧ (risex T S n s0 n).1 j = some q) ∧ (∀ j j' q, j < n → j' < n → (risex T S n s0 n).1 j = some q → (risex T S n s0 n).1 j' = some q → j = j') ∧
    (∀ j j' q q', j < j' → j' < n → (risex T S n s0 n).1 j = some q → (risex T S n s0 n).1 j' = some q' → r q q') ∧ (∀ q, q < n → ∃ j, j < n ∧ (risex T S n s0 n).1 j = some q) := by
  have hall : ∀ k, k ≤ n → ∃ pl, RJ n T S r (risex T S n s0 k) pl ∧ RG n T S (n - k) (risex T S n s0 k) pl := by
    intro k
    induction k with
    | zero => intro _; exact ⟨pl0, h0, hG0⟩
    | succ k ih =>
      intro hk
      obtain ⟨pl, h1, h2⟩ := ih (by omega)
      have e1 : n - k = (n - 1 - k) + 1 := by omega
      rw [e1] at h2
      have e2 : n - (k + 1) = n - 1 - k := by omega
      rw [e2]
      exact RJ.step hSd hK P1 P2 P4 h1 h2 (by omega)
  obtain ⟨pl, h1, h2⟩ := hall n (Nat.le_refl _)
  have hv : ∀ j, j < n → rvd n T S (risex T S n s0 n).2 j := fun j hj => h2.2 j (by omega) hj
  refine ⟨fun j hj => ?_, fun j j' q hj hj' g g' => h1.2.2.2.2.2.1 j j' q (hv j hj) (hv j' hj') g g', fun j j' q q' hjj hj' g g' => h1.2.2.2.2.2.2 j j' q q' (hv j (by omega)) (hv j' hj') hjj g g', fun q hq => ?_⟩
  · obtain ⟨q, a1, a2, -⟩ := h1.at (hv j hj)
    exact ⟨q, a2, a1⟩
  · cases hSq : S q with
    | false =>
      obtain ⟨j, g1, g2, g3⟩ := h1.2.2.2.1 q hq hSq
      have a1 := bsx_succ n T S (T q)
      have a2 := bsx_le n T (T q + 1)
      exact ⟨j, by omega, g1⟩
    | true =>
      have hpl : pl q = true := by
        have hq1 : q + 1 < n := slt_lt ((hSd q hq).mp hSq)
        have key : ∀ d p, n - p ≤ d → p < n → S p = true → pl p = true := by
          intro d
          induction d with
          | zero => intro p hd hp; omega
          | succ d ih =>
            intro p hd hp hSp
            have hp1 : p + 1 < n := slt_lt ((hSd p hp).mp hSp)
            refine (h2.1 p hp hSp).mpr ?_
            cases hS2 : S (p + 1) with
            | false =>
              obtain ⟨j, g1, g2, g3⟩ := h1.2.2.2.1 (p + 1) hp1 hS2
              exact ⟨j, by omega, ⟨_, Or.inl ⟨g2, g3⟩⟩, g1⟩
            | true =>
              obtain ⟨j, g1, g2, g3⟩ := h1.2.2.2.2.1 (p + 1) hp1 hS2 (ih (p + 1) (by omega) hp1 hS2)
              exact ⟨j, by omega, ⟨_, Or.inr ⟨g2, g3⟩⟩, g1⟩
        exact key (n - q) q (Nat.le_refl _) hq hSq
      obtain ⟨j, g1, g2, g3⟩ := h1.2.2.2.2.1 q hq hSq hpl
      have a2 := bsx_le n T (T q + 1)
      exact ⟨j, by omega, g1⟩
end RISE
