/-! where induced sorting reads and writes: within -/
theorem ind_safe {n : Nat} {T : Nat → Nat} {S : Nat → Bool} (hSd : ∀ p, p < n → (S p = true ↔ slt n T p (p + 1))) {K : Nat} (hK : ∀ p, p < n → T p < K) {m : Nat} {sds : Nat → Nat} (hsd : seeds n (LMx n S) m sds) :
    (∀ k, k < m → 0 < (sedx T n m sds k).2 (T (sds (m - 1 - k))) ∧ (sedx T n m sds k).2 (T (sds (m - 1 - k))) ≤ n) ∧
    (0 < n → (indA n T m sds).2 (T (n - 1)) < n) ∧
    (∀ i q, i < n → (fallx T S (indB n T m sds) i).1 i = some q → q < n) ∧
    (∀ i p, i < n → (fallx T S (indB n T m sds) i).1 i = some (p + 1) → S p = false → (fallx T S (indB n T m sds) i).2 (T p) < n) ∧
    (∀ k q, k < n → (risex T S n ((indC n T S m sds).1, fun c => bsx n T (c + 1)) k).1 (n - 1 - k) = some q → q < n) ∧
    (∀ k p, k < n → (risex T S n ((indC n T S m sds).1, fun c => bsx n T (c + 1)) k).1 (n - 1 - k) = some (p + 1) → S p = true → 0 < (risex T S n ((indC n T S m sds).1, fun c => bsx n T (c + 1)) k).2 (T p) ∧ (risex T S n ((indC n T S m sds).1, fun c => bsx n T (c + 1)) k).2 (T p) ≤ n) := by
  have hLM : ∀ q, LMx n S q = true → S q = true := fun q h => seeds_LM1 h
  have hS1 : ∀ k, k < m → 0 < (sedx T n m sds k).2 (T (sds (m - 1 - k))) ∧ (sedx T n m sds k).2 (T (sds (m - 1 - k))) ≤ n := by
    intro k hk
    obtain ⟨pl, h1, h2, h3⟩ := SJ.all (T := T) (r := fun _ _ => True) hsd hLM (fun _ _ _ _ _ => trivial) (fun _ _ _ _ _ => trivial) k (by omega)
    have h4 := h1.cu hLM (T (sds (m - 1 - k)))
    have h5 := bsx_le n T (T (sds (m - 1 - k)) + 1)
    exact ⟨h3 hk, by omega⟩
  by_cases hn : n = 0
  · exact ⟨hS1, fun h => by omega, fun i q hi => by omega, fun i p hi => by omega, fun k q hk => by omega, fun k p hk => by omega⟩
  obtain ⟨plS, hJ, hplS, -⟩ := SJ.all (T := T) (r := fun _ _ => True) hsd hLM (fun _ _ _ _ _ => trivial) (fun _ _ _ _ _ => trivial) m (Nat.le_refl _)
  have hplA : ∀ q, q < n → LMx n S q = true → plS q = true := by
    intro q hq hL
    obtain ⟨i, g1, g2⟩ := hsd.2.2 q hq hL
    exact (hplS q).mpr ⟨i, by omega, g1, g2⟩
  have hF0 : FJ n T S (LMx n S) (fun _ _ => True) (indA n T m sds) (fun _ => false) := by
    refine ⟨fun c => ?_, fun j q hj => ?_, fun q _ _ h => by simp at h, fun q hq hL => hJ.2.2.1 q hq hL (hplA q hq hL), hJ.2.2.2.1, fun _ _ _ _ _ _ _ => trivial, fun c j h1 h2 => ?_⟩
    · show bsx n T c = bsx n T c + cnt (fun p => (decide (T p = c) && !S p) && false) n
      rw [cnt_false n (fun i _ => by simp)]
      omega
    · have h1 := hJ.2.1 j q hj
      have h2 := hJ.cu hLM (T q)
      exact ⟨h1.1, Or.inr ⟨h1.2.1, by omega, h1.2.2.2.2⟩⟩
    · have h3 : j < bsx n T c := h2
      omega
  have hSn : S (n - 1) = false := by
    cases hz : S (n - 1) with
    | false => rfl
    | true =>
      have := slt_lt ((hSd (n - 1) (by omega)).mp hz)
      omega
  obtain ⟨hF1, -⟩ := hF0.put hLM (fun _ _ _ _ _ => trivial) (fun _ _ _ _ _ _ _ => trivial) (p := n - 1) (by omega) hSn rfl (fun _ _ _ _ _ _ _ => trivial)
  have eB : indB n T m sds = fput T (n - 1) (indA n T m sds) := by unfold indB; rw [if_neg hn]
  rw [← eB] at hF1
  have hG1 : FG n S 0 (indB n T m sds) (fup (fun _ => false) (n - 1) true) := by
    intro q hq hSq
    by_cases e : q = n - 1
    · subst e
      rw [fup_self]
      exact ⟨fun _ => Or.inl (by omega), fun _ => rfl⟩
    · rw [fup_ne _ _ e]
      refine ⟨fun h => by simp at h, fun h => ?_⟩
      rcases h with g | ⟨j, g1, g2⟩
      · omega
      · omega
  have hall : ∀ k, ∃ pl, FJ n T S (LMx n S) (fun _ _ => True) (fallx T S (indB n T m sds) k) pl ∧ FG n S k (fallx T S (indB n T m sds) k) pl := by
    intro k
    induction k with
    | zero => exact ⟨_, hF1, hG1⟩
    | succ k ih =>
      obtain ⟨pl, h1, h2⟩ := ih
      exact FJ.step hSd hLM (fun _ _ _ _ _ => trivial) (fun _ _ _ _ _ _ _ => trivial) (fun _ _ _ _ _ _ _ _ => trivial) (fun _ _ _ _ => trivial) h1 h2
  obtain ⟨pl, hF2, hpl⟩ := FJ.all (r := fun _ _ => True) hSd hLM seeds_LM2 (fun _ _ _ _ _ => trivial) (fun _ _ _ _ _ _ _ => trivial) (fun _ _ _ _ _ _ _ _ => trivial) (fun _ _ _ _ => trivial) hF1 hG1
  have hF2 : FJ n T S (LMx n S) (fun _ _ => True) (indC n T S m sds) pl := hF2
  have hcu : ∀ c, (indC n T S m sds).2 c = bsx n T c + Lbx n T S c := by
    intro c
    rw [hF2.1]
    congr 1
    apply cnt_eq
    intro i hi
    cases hz : S i with
    | true => simp
    | false => simp [hpl i hi hz]
  have hR : RJ n T S (fun _ _ => True) ((indC n T S m sds).1, fun c => bsx n T (c + 1)) (fun _ => false) := by
    refine ⟨fun c => ?_, fun c j h1 h2 => ?_, fun c j h1 h2 => ?_, fun q hq hSq => ?_, fun q _ _ h => by simp at h, fun j j' q _ _ a b => hF2.2.2.2.2.1 j j' q a b, fun _ _ _ _ _ _ _ _ _ => trivial⟩
    · show bsx n T (c + 1) + cnt (fun p => (decide (T p = c) && S p) && false) n = _
      rw [cnt_false n (fun i _ => by simp)]
      omega
    · obtain ⟨q, hq⟩ := hF2.2.2.2.2.2.2 c j h1 (by rw [hcu]; exact h2)
      have hb := hF2.bkt hq
      have hsu := bsx_succ n T S c
      have he : T q = c := bsx_one hb.1 hb.2 h1 (by omega)
      obtain ⟨a1, a2 | a2⟩ := hF2.2.1 j q hq
      · exact ⟨q, hq, a1, he, a2.1⟩
      · rw [he] at a2; omega
    · have h3 : bsx n T (c + 1) ≤ j := h1
      omega
    · obtain ⟨j, hj⟩ := hF2.2.2.1 q hq hSq (hpl q hq hSq)
      obtain ⟨a1, a2 | a2⟩ := hF2.2.1 j q hj
      · rw [hcu] at a2
        exact ⟨j, hj, a2.2.2.1, a2.2.2.2⟩
      · have := hLM q a2.1
        rw [hSq] at this
        exact absurd this (by simp)
  have hG : RG n T S n ((indC n T S m sds).1, fun c => bsx n T (c + 1)) (fun _ => false) := by
    refine ⟨fun q hq hSq => ⟨fun h => by simp at h, fun h => ?_⟩, fun j h1 h2 => by omega⟩
    obtain ⟨j, g1, ⟨c, g2 | g2⟩, g3⟩ := h
    · have := bsx_le n T (c + 1)
      have := bsx_succ n T S c
      omega
    · have g4 : bsx n T (c + 1) ≤ j := g2.1
      omega
  have hallR : ∀ k, k ≤ n → ∃ pl, RJ n T S (fun _ _ => True) (risex T S n ((indC n T S m sds).1, fun c => bsx n T (c + 1)) k) pl ∧ RG n T S (n - k) (risex T S n ((indC n T S m sds).1, fun c => bsx n T (c + 1)) k) pl := by
    intro k
    induction k with
    | zero => intro _; exact ⟨_, hR, hG⟩
    | succ k ih =>
      intro hk
      obtain ⟨pl, h1, h2⟩ := ih (by omega)
      have e1 : n - k = (n - 1 - k) + 1 := by omega
      rw [e1] at h2
      have e2 : n - (k + 1) = n - 1 - k := by omega
      rw [e2]
      exact RJ.step hSd hK (fun _ _ _ _ _ => trivial) (fun _ _ _ _ _ _ _ => trivial) (fun _ _ _ _ _ _ _ _ => trivial) h1 h2 (by omega)
  refine ⟨hS1, fun _ => ?_, fun i q hi hq => ?_, fun i p hi hp hSp => ?_, fun k q hk hq => ?_, fun k p hk hp hSp => ?_⟩
  · have h1 : (indA n T m sds).2 (T (n - 1)) = bsx n T (T (n - 1)) := rfl
    rw [h1]
    have h2 := cnt_lt (P := fun p => decide (T p < T (n - 1))) (Q := fun _ => true) n (n - 1) (fun _ _ _ => rfl) (by omega) (by simp) rfl
    rw [cnt_true n (fun _ _ => rfl)] at h2
    exact h2
  · obtain ⟨pl, h1, -⟩ := hall i
    exact (h1.2.1 i q hq).1
  · obtain ⟨pl, h1, h2⟩ := hall i
    have hp1 := (h1.2.1 i _ hp).1
    have hpl : pl p = false := by
      cases hx : pl p with
      | false => rfl
      | true =>
        rcases (h2 p (by omega) hSp).mp hx with g | ⟨j, g1, g2⟩
        · omega
        · have := h1.2.2.2.2.1 j i _ g2 hp
          omega
    have h3 := h1.cuL (T p)
    have h4 := h1.1 (T p)
    have h5 : cnt (fun q => (decide (T q = T p) && !S q) && pl q) n < Lbx n T S (T p) := by
      apply cnt_lt n p
      · intro i hi hq
        rw [Bool.and_eq_true] at hq
        exact hq.1
      · omega
      · simp [hpl]
      · simp [hSp]
    have h6 := bsx_succ n T S (T p)
    have h7 := bsx_le n T (T p + 1)
    omega
  · obtain ⟨pl, h1, h2⟩ := hallR k (by omega)
    rw [show n - k = (n - 1 - k) + 1 by omega] at h2
    obtain ⟨x, a1, a2, -⟩ := h1.at (RJ.next hSd hK h1 h2 (by omega))
    rw [hq] at a1
    have := Option.some.inj a1
    omega
  · obtain ⟨pl, h1, h2⟩ := hallR k (by omega)
    rw [show n - k = (n - 1 - k) + 1 by omega] at h2
    have hv := RJ.next hSd hK h1 h2 (by omega)
    obtain ⟨x, a1, a2, -⟩ := h1.at hv
    rw [hp] at a1
    have hx := Option.some.inj a1
    have hpn : p < n := by omega
    have hpl : pl p = false := by
      cases hx : pl p with
      | false => rfl
      | true =>
        obtain ⟨j, g1, g2, g3⟩ := (h2.1 p hpn hSp).mp hx
        have := h1.2.2.2.2.2.1 j (n - 1 - k) _ g2 hv g3 hp
        omega
    obtain ⟨-, h3, -⟩ := h1.put (fun _ _ _ _ _ => trivial) (fun _ _ _ _ _ _ _ => trivial) hpn hSp hpl (fun _ _ _ _ _ _ _ _ => trivial)
    have h4 := h1.cuS (T p)
    have h5 := bsx_le n T (T p + 1)
    omega
