/-! INDUCED SORTING, as a whole: seeds, what falls, what rises -/
def sedx (T : Nat → Nat) (n m : Nat) (sds : Nat → Nat) : Nat → sst
  | 0 => (fun _ => none, fun c => bsx n T (c + 1))
  | k + 1 => rput T (sds (m - 1 - k)) (sedx T n m sds k)
def indA (n : Nat) (T : Nat → Nat) (m : Nat) (sds : Nat → Nat) : sst := ((sedx T n m sds m).1, bsx n T)
def indB (n : Nat) (T : Nat → Nat) (m : Nat) (sds : Nat → Nat) : sst := if n = 0 then indA n T m sds else fput T (n - 1) (indA n T m sds)
def indC (n : Nat) (T : Nat → Nat) (S : Nat → Bool) (m : Nat) (sds : Nat → Nat) : sst := fallx T S (indB n T m sds) n
def indx (n : Nat) (T : Nat → Nat) (S : Nat → Bool) (m : Nat) (sds : Nat → Nat) : Nat → Option Nat := (risex T S n ((indC n T S m sds).1, fun c => bsx n T (c + 1)) n).1
def SJ (n : Nat) (T : Nat → Nat) (LM : Nat → Bool) (r : Nat → Nat → Prop) (s : sst) (pl : Nat → Bool) : Prop :=
  (∀ c, s.2 c + cnt (fun p => (decide (T p = c) && LM p) && pl p) n = bsx n T (c + 1)) ∧
  (∀ j q, s.1 j = some q → q < n ∧ LM q = true ∧ pl q = true ∧ s.2 (T q) ≤ j ∧ j < bsx n T (T q + 1)) ∧
  (∀ q, q < n → LM q = true → pl q = true → ∃ j, s.1 j = some q) ∧
  (∀ j j' q, s.1 j = some q → s.1 j' = some q → j = j') ∧
  (∀ j j' q q', j < j' → s.1 j = some q → s.1 j' = some q' → r q q')
section IND
variable {n : Nat} {T : Nat → Nat} {S LM : Nat → Bool} {r : Nat → Nat → Prop}
theorem SJ.cu {s : sst} {pl : Nat → Bool} (h : SJ n T LM r s pl) (hLM : ∀ q, LM q = true → S q = true) (c : Nat) : bsx n T c + Lbx n T S c ≤ s.2 c ∧ s.2 c ≤ bsx n T (c + 1) := by
  have h1 := h.1 c
  have h2 : cnt (fun p => (decide (T p = c) && LM p) && pl p) n ≤ Sbx n T S c := by
    apply cnt_le
    intro i hi hp
    simp only [Bool.and_eq_true] at hp ⊢
    exact ⟨hp.1.1, hLM i hp.1.2⟩
  have h3 := bsx_succ n T S c
  omega
theorem SJ.put {s : sst} {pl : Nat → Bool} (h : SJ n T LM r s pl) (hLM : ∀ q, LM q = true → S q = true)
    (P1 : ∀ p q, p < n → q < n → T p < T q → r p q) {p : Nat} (hp : p < n) (hL : LM p = true) (hpl : pl p = false) (hr1 : ∀ q, q < n → T q = T p → LM q = true → pl q = true → r p q) :
    SJ n T LM r (rput T p s) (fup pl p true) ∧ 0 < s.2 (T p) := by
  have hcu := h.cu hLM (T p)
  have hlt : bsx n T (T p) + Lbx n T S (T p) < s.2 (T p) := by
    have h1 := h.1 (T p)
    have h2 : cnt (fun q => (decide (T q = T p) && LM q) && pl q) n < Sbx n T S (T p) := by
      apply cnt_lt n p
      · intro i hi hq
        simp only [Bool.and_eq_true] at hq ⊢
        exact ⟨hq.1.1, hLM i hq.1.2⟩
      · exact hp
      · simp [hpl]
      · simp [hLM p hL]
    have h3 := bsx_succ n T S (T p)
    omega
  obtain ⟨hA, hB, hC, hE, hF⟩ := id h
  have hcuS : (rput T p s).2 (T p) = s.2 (T p) - 1 := fup_self _ _ _
  have hcuN : ∀ c, c ≠ T p → (rput T p s).2 c = s.2 c := fun c e => fup_ne _ _ e
  have hself : (rput T p s).1 (s.2 (T p) - 1) = some p := fup_self _ _ _
  have hne : ∀ j, j ≠ s.2 (T p) - 1 → (rput T p s).1 j = s.1 j := fun j e => fup_ne _ _ e
  have hbk : ∀ j q, s.1 j = some q → bsx n T (T q) ≤ j := by
    intro j q hj
    have h1 := hB j q hj
    have h2 := h.cu hLM (T q)
    omega
  have hnone : ∀ q, s.1 (s.2 (T p) - 1) ≠ some q := by
    intro q hq
    have h1 := hB _ q hq
    have h2 := hbk _ q hq
    have he : T q = T p := bsx_one h2 h1.2.2.2.2 (by omega) (by omega)
    rw [he] at h1
    omega
  have hold : ∀ j q, (rput T p s).1 j = some q → (j = s.2 (T p) - 1 ∧ q = p) ∨ (j ≠ s.2 (T p) - 1 ∧ s.1 j = some q) := by
    intro j q hj
    by_cases e : j = s.2 (T p) - 1
    · subst e
      rw [hself] at hj
      exact Or.inl ⟨rfl, (Option.some.inj hj).symm⟩
    · rw [hne j e] at hj
      exact Or.inr ⟨e, hj⟩
  have hpl2 : ∀ q, pl q = true → fup pl p true q = true := by
    intro q hq
    by_cases e : q = p
    · subst e; rw [fup_self]
    · rw [fup_ne _ _ e]; exact hq
  have hnp : ∀ j, s.1 j ≠ some p := by
    intro j hj
    have h1 := hB j p hj
    rw [hpl] at h1
    exact absurd h1.2.2.1 (by simp)
  refine ⟨⟨?_, ?_, ?_, ?_, ?_⟩, by omega⟩
  · intro c
    by_cases e : c = T p
    · subst e
      rw [hcuS, ← hA]
      have := cnt_add (P := fun q => (decide (T q = T p) && LM q) && pl q) (Q := fun q => (decide (T q = T p) && LM q) && fup pl p true q) n p hp (by simp [hpl]) (by simp [hL, fup_self]) (fun i hi hn => by rw [fup_ne _ _ hn])
      omega
    · rw [hcuN c e, ← hA]
      congr 1
      apply cnt_eq
      intro i hi
      by_cases e2 : i = p
      · subst e2
        have e3 : ¬ T i = c := fun q => e q.symm
        simp [e3]
      · rw [fup_ne _ _ e2]
  · intro j q hj
    rcases hold j q hj with ⟨e1, e2⟩ | ⟨e1, e2⟩
    · subst e1; subst e2
      exact ⟨hp, hL, fup_self _ _ _, by rw [hcuS]; exact Nat.le_refl _, by omega⟩
    · obtain ⟨g1, g2, g3, g4, g5⟩ := hB j q e2
      refine ⟨g1, g2, hpl2 q g3, ?_, g5⟩
      by_cases e3 : T q = T p
      · rw [e3, hcuS]; rw [e3] at g4; omega
      · rw [hcuN _ e3]; exact g4
  · intro q hq hLq hplq
    by_cases e : q = p
    · subst e; exact ⟨_, hself⟩
    · rw [fup_ne _ _ e] at hplq
      obtain ⟨j, hj⟩ := hC q hq hLq hplq
      refine ⟨j, ?_⟩
      rw [hne]
      · exact hj
      · intro e; rw [e] at hj; exact hnone q hj
  · intro j j' q hj hj'
    rcases hold j q hj with ⟨e1, e2⟩ | ⟨e1, e2⟩ <;> rcases hold j' q hj' with ⟨e3, e4⟩ | ⟨e3, e4⟩
    · omega
    · subst e2; exact absurd e4 (hnp j')
    · subst e4; exact absurd e2 (hnp j)
    · exact hE j j' q e2 e4
  · intro j j' q q' hjj hj hj'
    rcases hold j q hj with ⟨e1, e2⟩ | ⟨e1, e2⟩ <;> rcases hold j' q' hj' with ⟨e3, e4⟩ | ⟨e3, e4⟩
    · omega
    · subst e1; subst e2
      obtain ⟨g1, g2, g3, g4, g5⟩ := hB j' q' e4
      have hle : T q ≤ T q' := bsx_ord (show bsx n T (T q) ≤ s.2 (T q) - 1 by omega) g5 (by omega)
      rcases Nat.lt_or_ge (T q) (T q') with g | g
      · exact P1 _ _ hp g1 g
      · exact hr1 q' g1 (by omega) g2 g3
    · subst e3; subst e4
      obtain ⟨g1, g2, g3, g4, g5⟩ := hB j q e2
      have hle : T q ≤ T q' := bsx_ord (hbk j q e2) (show s.2 (T q') - 1 < bsx n T (T q' + 1) by omega) (by omega)
      rcases Nat.lt_or_ge (T q) (T q') with g | g
      · exact P1 _ _ g1 hp g
      · have he : T q = T q' := by omega
        rw [he] at g4
        omega
    · exact hF j j' q q' hjj e2 e4
/-- the seeds: the turns, each once -/
def seeds (n : Nat) (LM : Nat → Bool) (m : Nat) (sds : Nat → Nat) : Prop := (∀ i, i < m → sds i < n ∧ LM (sds i) = true) ∧ (∀ i i', i < m → i' < m → sds i = sds i' → i = i') ∧ ∀ q, q < n → LM q = true → ∃ i, i < m ∧ sds i = q
theorem SJ.all {m : Nat} {sds : Nat → Nat} (hsd : seeds n LM m sds) (hLM : ∀ q, LM q = true → S q = true) (P1 : ∀ p q, p < n → q < n → T p < T q → r p q)
    (hs : ∀ i i', i < i' → i' < m → T (sds i) = T (sds i') → r (sds i) (sds i')) :
    ∀ k, k ≤ m → ∃ pl, SJ n T LM r (sedx T n m sds k) pl ∧ (∀ q, pl q = true ↔ ∃ i, m - k ≤ i ∧ i < m ∧ sds i = q) ∧ (k < m → 0 < (sedx T n m sds k).2 (T (sds (m - 1 - k)))) := by
  have base : ∀ k, k ≤ m → ∃ pl, SJ n T LM r (sedx T n m sds k) pl ∧ (∀ q, pl q = true ↔ ∃ i, m - k ≤ i ∧ i < m ∧ sds i = q) := by
    intro k
    induction k with
    | zero =>
      intro _
      refine ⟨fun _ => false, ⟨fun c => ?_, fun j q h => ?_, fun q _ _ h => ?_, fun j j' q h => ?_, fun j j' q q' _ h => ?_⟩, fun q => ⟨fun h => by simp at h, fun ⟨i, h1, h2, h3⟩ => by omega⟩⟩
      · show bsx n T (c + 1) + cnt (fun p => (decide (T p = c) && LM p) && false) n = _
        rw [cnt_false n (fun i _ => by simp)]
        omega
      · cases h
      · simp at h
      · cases h
      · cases h
    | succ k ih =>
      intro hk
      obtain ⟨pl, h1, h2⟩ := ih (by omega)
      have hx := hsd.1 (m - 1 - k) (by omega)
      have hpl : pl (sds (m - 1 - k)) = false := by
        cases hz : pl (sds (m - 1 - k)) with
        | false => rfl
        | true =>
          obtain ⟨i, g1, g2, g3⟩ := (h2 _).mp hz
          have := hsd.2.1 i (m - 1 - k) g2 (by omega) g3
          omega
      obtain ⟨h3, -⟩ := h1.put hLM P1 hx.1 hx.2 hpl (fun q hq hT hLq hplq => by
        obtain ⟨i, g1, g2, g3⟩ := (h2 q).mp hplq
        have := hs (m - 1 - k) i (by omega) g2 (by rw [g3]; exact hT.symm)
        rw [g3] at this
        exact this)
      refine ⟨_, h3, fun q => ⟨fun hz => ?_, fun ⟨i, g1, g2, g3⟩ => ?_⟩⟩
      · by_cases e : q = sds (m - 1 - k)
        · exact ⟨m - 1 - k, by omega, by omega, e.symm⟩
        · rw [fup_ne _ _ e] at hz
          obtain ⟨i, g1, g2, g3⟩ := (h2 q).mp hz
          exact ⟨i, by omega, g2, g3⟩
      · by_cases e : q = sds (m - 1 - k)
        · subst e; rw [fup_self]
        · rw [fup_ne _ _ e]
          refine (h2 q).mpr ⟨i, ?_, g2, g3⟩
          by_cases e2 : i = m - 1 - k
          · subst e2; exact absurd g3.symm e
          · omega
  intro k hk
  obtain ⟨pl, h1, h2⟩ := base k hk
  refine ⟨pl, h1, h2, fun hkm => ?_⟩
  have hx := hsd.1 (m - 1 - k) (by omega)
  have hpl : pl (sds (m - 1 - k)) = false := by
    cases hz : pl (sds (m - 1 - k)) with
    | false => rfl
    | true =>
      obtain ⟨i, g1, g2, g3⟩ := (h2 _).mp hz
      have := hsd.2.1 i (m - 1 - k) g2 (by omega) g3
      omega
  exact (h1.put hLM P1 hx.1 hx.2 hpl (fun q hq hT hLq hplq => by
    obtain ⟨i, g1, g2, g3⟩ := (h2 q).mp hplq
    have := hs (m - 1 - k) i (by omega) g2 (by rw [g3]; exact hT.symm)
    rw [g3] at this
    exact this)).2
/-- INDUCED SORTING: r1 orders what falls and the seeds, r2 all -/
theorem ind_ok {r2 : Nat → Nat → Prop} (hSd : ∀ p, p < n → (S p = true ↔ slt n T p (p + 1))) (hLM : ∀ q, LM q = true → S q = true) (hLM2 : ∀ q, q + 1 < n → S q = false → S (q + 1) = true → LM (q + 1) = true)
    {K : Nat} (hK : ∀ p, p < n → T p < K) {m : Nat} {sds : Nat → Nat} (hsd : seeds n LM m sds) (hs : ∀ i i', i < i' → i' < m → T (sds i) = T (sds i') → r (sds i) (sds i'))
    (P1 : ∀ p q, p < n → q < n → T p < T q → r p q) (P2 : ∀ p q, p < n → q < n → T p = T q → S p = false → S q = true → r p q)
    (P3 : ∀ p q, p + 1 < n → q + 1 < n → T p = T q → S p = false → S q = false → r (p + 1) (q + 1) → r p q) (P4 : ∀ q, q + 1 < n → T (n - 1) = T q → S q = false → r (n - 1) q)
    (Q1 : ∀ p q, p < n → q < n → T p < T q → r2 p q) (Q2 : ∀ p q, p < n → q < n → T p = T q → S p = false → S q = true → r2 p q)
    (Q4 : ∀ p q, p + 1 < n → q + 1 < n → T p = T q → S p = true → S q = true → r2 (p + 1) (q + 1) → r2 p q) (Q5 : ∀ p q, p < n → q < n → S p = false → S q = false → r p q → r2 p q) :
    (∀ j, j < n → ∃ q, q < n ∧ indx n T S m sds j = some q) ∧ (∀ j j' q, j < n → j' < n → indx n T S m sds j = some q → indx n T S m sds j' = some q → j = j') ∧
    (∀ j j' q q', j < j' → j' < n → indx n T S m sds j = some q → indx n T S m sds j' = some q' → r2 q q') ∧ (∀ q, q < n → ∃ j, j < n ∧ indx n T S m sds j = some q) := by
  by_cases hn : n = 0
  · subst hn
    exact ⟨fun j hj => by omega, fun j j' q hj => by omega, fun j j' q q' _ hj => by omega, fun q hq => by omega⟩
  obtain ⟨plS, hJ, hplS, -⟩ := SJ.all hsd hLM P1 hs m (Nat.le_refl _)
  have hplA : ∀ q, q < n → LM q = true → plS q = true := by
    intro q hq hL
    obtain ⟨i, g1, g2⟩ := hsd.2.2 q hq hL
    exact (hplS q).mpr ⟨i, by omega, g1, g2⟩
  have hF0 : FJ n T S LM r (indA n T m sds) (fun _ => false) := by
    refine ⟨fun c => ?_, fun j q hj => ?_, fun q _ _ h => by simp at h, fun q hq hL => hJ.2.2.1 q hq hL (hplA q hq hL), hJ.2.2.2.1, hJ.2.2.2.2, fun c j h1 h2 => ?_⟩
    · show bsx n T c = bsx n T c + cnt (fun p => (decide (T p = c) && !S p) && false) n
      rw [cnt_false n (fun i _ => by simp)]
      omega
    · have h1 := hJ.2.1 j q hj
      have h2 := hJ.cu hLM (T q)
      exact ⟨h1.1, Or.inr ⟨h1.2.1, by omega, h1.2.2.2.2⟩⟩
    · have h3 : j < bsx n T c := h2
      omega
  have hSn : S (n - 1) = false := by
    cases hz : S (n - 1) with
    | false => rfl
    | true =>
      have := slt_lt ((hSd (n - 1) (by omega)).mp hz)
      omega
  obtain ⟨hF1, -⟩ := hF0.put hLM P1 P2 (p := n - 1) (by omega) hSn rfl (fun j q _ _ _ _ h => by simp at h)
  have eB : indB n T m sds = fput T (n - 1) (indA n T m sds) := by unfold indB; rw [if_neg hn]
  rw [← eB] at hF1
  have hG1 : FG n S 0 (indB n T m sds) (fup (fun _ => false) (n - 1) true) := by
    intro q hq hSq
    by_cases e : q = n - 1
    · subst e
      rw [fup_self]
      exact ⟨fun _ => Or.inl (by omega), fun _ => rfl⟩
    · rw [fup_ne _ _ e]
      refine ⟨fun h => by simp at h, fun h => ?_⟩
      rcases h with g | ⟨j, g1, g2⟩
      · omega
      · omega
  obtain ⟨pl, hF2, hpl⟩ := FJ.all hSd hLM hLM2 P1 P2 P3 P4 hF1 hG1
  have hF2 : FJ n T S LM r (indC n T S m sds) pl := hF2
  have hcu : ∀ c, (indC n T S m sds).2 c = bsx n T c + Lbx n T S c := by
    intro c
    rw [hF2.1]
    congr 1
    apply cnt_eq
    intro i hi
    cases hz : S i with
    | true => simp
    | false => simp [hpl i hi hz]
  have hR : RJ n T S r2 ((indC n T S m sds).1, fun c => bsx n T (c + 1)) (fun _ => false) := by
    have hvL : ∀ j, rvd n T S (fun c => bsx n T (c + 1)) j → ∃ q, (indC n T S m sds).1 j = some q ∧ q < n ∧ S q = false := by
      rintro j ⟨c, g | g⟩
      · obtain ⟨q, hq⟩ := hF2.2.2.2.2.2.2 c j g.1 (by rw [hcu]; exact g.2)
        have hb := hF2.bkt hq
        have hsu := bsx_succ n T S c
        have he : T q = c := bsx_one hb.1 hb.2 g.1 (by omega)
        obtain ⟨a1, a2 | a2⟩ := hF2.2.1 j q hq
        · exact ⟨q, hq, a1, a2.1⟩
        · rw [he] at a2; omega
      · have g1 : bsx n T (c + 1) ≤ j := g.1
        omega
    refine ⟨fun c => ?_, fun c j h1 h2 => ?_, fun c j h1 h2 => ?_, fun q hq hSq => ?_, fun q _ _ h => by simp at h, fun j j' q _ _ a b => hF2.2.2.2.2.1 j j' q a b, fun j j' q q' v v' hjj a b => ?_⟩
    · show bsx n T (c + 1) + cnt (fun p => (decide (T p = c) && S p) && false) n = _
      rw [cnt_false n (fun i _ => by simp)]
      omega
    · obtain ⟨q, hq⟩ := hF2.2.2.2.2.2.2 c j h1 (by rw [hcu]; exact h2)
      have hb := hF2.bkt hq
      have hsu := bsx_succ n T S c
      have he : T q = c := bsx_one hb.1 hb.2 h1 (by omega)
      obtain ⟨a1, a2 | a2⟩ := hF2.2.1 j q hq
      · exact ⟨q, hq, a1, he, a2.1⟩
      · rw [he] at a2; omega
    · have h3 : bsx n T (c + 1) ≤ j := h1
      omega
    · obtain ⟨j, hj⟩ := hF2.2.2.1 q hq hSq (hpl q hq hSq)
      obtain ⟨a1, a2 | a2⟩ := hF2.2.1 j q hj
      · rw [hcu] at a2
        exact ⟨j, hj, a2.2.2.1, a2.2.2.2⟩
      · have := hLM q a2.1
        rw [hSq] at this
        exact absurd this (by simp)
    · obtain ⟨x, b1, b2, b3⟩ := hvL j v
      obtain ⟨x', b1', b2', b3'⟩ := hvL j' v'
      have a0 : (indC n T S m sds).1 j = some q := a
      have b0 : (indC n T S m sds).1 j' = some q' := b
      rw [a0] at b1
      rw [b0] at b1'
      have e1 := Option.some.inj b1
      have e2 := Option.some.inj b1'
      subst e1; subst e2
      exact Q5 q q' b2 b2' b3 b3' (hF2.2.2.2.2.2.1 j j' q q' hjj a0 b0)
  have hG : RG n T S n ((indC n T S m sds).1, fun c => bsx n T (c + 1)) (fun _ => false) := by
    refine ⟨fun q hq hSq => ⟨fun h => by simp at h, fun h => ?_⟩, fun j h1 h2 => by omega⟩
    obtain ⟨j, g1, ⟨c, g2 | g2⟩, g3⟩ := h
    · have := bsx_le n T (c + 1)
      have := bsx_succ n T S c
      omega
    · have g4 : bsx n T (c + 1) ≤ j := g2.1
      omega
  exact RJ.all hSd hK Q1 Q2 Q4 hR hG
end IND
