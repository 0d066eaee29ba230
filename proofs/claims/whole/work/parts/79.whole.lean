/-! THE WHOLE as letters: ENDS 0 .. 7, signs from 8 on -/
def WFx (n : Nat) (T tx st en : Nat → Nat) : Prop := n ≤ 408 ∧ (∀ p, p < n → T p < 1008 ∧ tx p < 8 ∧ st (tx p) ≤ p ∧ p ≤ en (tx p) ∧ en (tx p) < n ∧ T (en (tx p)) = tx p ∧ tx (en (tx p)) = tx p) ∧ (∀ p, p < n → T p < 8 → p = en (tx p)) ∧ ∀ p q, p < n → p ≤ q → q < en (tx p) → 8 ≤ T q ∧ tx q = tx p
theorem pos_find (ct : Nat → Nat) : ∀ (t p : Nat), p < posx ct t → ∃ u i, u < t ∧ i ≤ ct u ∧ 0 < ct u ∧ p = posx ct u + i := by
  intro t
  induction t with
  | zero => intro p hp; exact absurd hp (Nat.not_lt_zero _)
  | succ t ih =>
    intro p hp
    by_cases h : p < posx ct t
    · obtain ⟨u, i, a, b⟩ := ih p h
      exact ⟨u, i, by omega, b⟩
    · simp only [posx] at hp
      by_cases h0 : ct t = 0
      · rw [if_pos h0] at hp; omega
      · rw [if_neg h0] at hp
        exact ⟨t, p - posx ct t, by omega, by omega, by omega, by omega⟩
/-- what has been laid, in class and reference, is of one whole -/
theorem laid_wf {A B A2 B2 : Nat → Int32} {ct : Nat → Nat} {sg : Nat → Nat → Nat} (hb : offx ct 8 ≤ 400) (hsg : ∀ t k, t < 8 → k < ct t → sg t k ≤ 999) (h1 : Laid A B ct sg nI (fun c => nI (c + 8)) 8 0) (h2 : Laid A2 B2 ct sg eM nI 8 0) :
    ∃ T tx : Nat → Nat, WFx (posx ct 8) T tx (posx ct) (fun u => posx ct u + ct u) ∧ ∀ p, p < posx ct 8 → A p = nI (T p) ∧ B p = nI (tx p) ∧ B2 p = nI (tx p) ∧ A2 p = (if T p < 8 then eM (T p) else nI (T p - 8)) := by
  have hct : ∀ u, u < 8 → ct u ≤ 400 := by
    intro u hu
    have := offx_mono ct (show u + 1 ≤ 8 by omega)
    have h9 : offx ct (u + 1) = offx ct u + ct u := rfl
    omega
  have hlt : ∀ u i, u < 8 → i ≤ ct u → 0 < ct u → posx ct u + i < posx ct (u + 1) ∧ posx ct (u + 1) ≤ posx ct 8 := by
    intro u i hu hi h0
    refine ⟨?_, posx_mono ct (by omega)⟩
    simp only [posx]
    rw [if_neg (by omega)]
    omega
  have hone : ∀ u i u' i', u < 8 → u' < 8 → i ≤ ct u → i' ≤ ct u' → 0 < ct u → 0 < ct u' → posx ct u + i = posx ct u' + i' → u = u' ∧ i = i' := by
    intro u i u' i' hu hu' hi hi' h0 h0' he
    have a1 := hlt u i hu hi h0
    have a2 := hlt u' i' hu' hi' h0'
    rcases Nat.lt_trichotomy u u' with g | g | g
    · have := posx_mono ct (show u + 1 ≤ u' by omega); omega
    · subst g; exact ⟨rfl, by omega⟩
    · have := posx_mono ct (show u' + 1 ≤ u by omega); omega
  have hs : ∀ u i, u < 8 → i < ct u → (A (posx ct u + i) = nI (sg u i + 8) ∧ B (posx ct u + i) = nI u) ∧ (A2 (posx ct u + i) = nI (sg u i) ∧ B2 (posx ct u + i) = nI u) := fun u i hu hi => ⟨h1.1 u i hu hi (Or.inl hu), h2.1 u i hu hi (Or.inl hu)⟩
  have he : ∀ u, u < 8 → 0 < ct u → (A (posx ct u + ct u) = nI u ∧ B (posx ct u + ct u) = nI u) ∧ (A2 (posx ct u + ct u) = eM u ∧ B2 (posx ct u + ct u) = nI u) := fun u hu h0 => ⟨h1.2 u hu hu h0, h2.2 u hu hu h0⟩
  have hTs : ∀ u i, u < 8 → i < ct u → (A (posx ct u + i)).toNatClampNeg = sg u i + 8 := fun u i hu hi => by rw [(hs u i hu hi).1.1, nI_clamp (by have := hsg u i hu hi; omega)]
  have hTe : ∀ u, u < 8 → 0 < ct u → (A (posx ct u + ct u)).toNatClampNeg = u := fun u hu h0 => by rw [(he u hu h0).1.1, nI_clamp (by omega)]
  have htx : ∀ u i, u < 8 → i ≤ ct u → 0 < ct u → (B (posx ct u + i)).toNatClampNeg = u := by
    intro u i hu hi h0
    by_cases e : i = ct u
    · subst e; rw [(he u hu h0).1.2, nI_clamp (by omega)]
    · rw [(hs u i hu (by omega)).1.2, nI_clamp (by omega)]
  refine ⟨fun p => (A p).toNatClampNeg, fun p => (B p).toNatClampNeg, ⟨posx_bnd hb (Nat.le_refl _), fun p hp => ?_, fun p hp hT => ?_, fun p q hp hpq hq => ?_⟩, fun p hp => ?_⟩
  · obtain ⟨u, i, hu, hi, h0, rfl⟩ := pos_find ct 8 p hp
    simp only [htx u i hu hi h0]
    have hl := hlt u (ct u) hu (Nat.le_refl _) h0
    refine ⟨?_, hu, by omega, by omega, by omega, hTe u hu h0, htx u (ct u) hu (Nat.le_refl _) h0⟩
    by_cases e : i = ct u
    · subst e; rw [hTe u hu h0]; omega
    · rw [hTs u i hu (by omega)]; have := hsg u i hu (by omega); omega
  · obtain ⟨u, i, hu, hi, h0, rfl⟩ := pos_find ct 8 p hp
    simp only [htx u i hu hi h0]
    by_cases e : i = ct u
    · rw [e]
    · have hT : (A (posx ct u + i)).toNatClampNeg < 8 := hT
      rw [hTs u i hu (by omega)] at hT
      omega
  · obtain ⟨u, i, hu, hi, h0, rfl⟩ := pos_find ct 8 p hp
    simp only [htx u i hu hi h0] at hq ⊢
    obtain ⟨j, rfl⟩ : ∃ j, q = posx ct u + j := ⟨q - posx ct u, by omega⟩
    refine ⟨?_, htx u j hu (by omega) h0⟩
    rw [hTs u j hu (by omega)]
    omega
  · obtain ⟨u, i, hu, hi, h0, rfl⟩ := pos_find ct 8 p hp
    simp only [htx u i hu hi h0]
    by_cases e : i = ct u
    · subst e
      rw [hTe u hu h0, if_pos hu]
      exact ⟨(he u hu h0).1.1, (he u hu h0).1.2, (he u hu h0).2.2, (he u hu h0).2.1⟩
    · rw [hTs u i hu (by omega), if_neg (by omega), show sg u i + 8 - 8 = sg u i by omega]
      exact ⟨(hs u i hu (by omega)).1.1, (hs u i hu (by omega)).1.2, (hs u i hu (by omega)).2.2, (hs u i hu (by omega)).2.1⟩
/-! COMMON -/
def lcf (n : Nat) (T : Nat → Nat) : Nat → Nat → Nat → Nat
  | 0, _, _ => 0
  | f + 1, p, q => if p < n ∧ q < n ∧ T p = T q ∧ 8 ≤ T p then lcf n T f (p + 1) (q + 1) + 1 else 0
def lcx (n : Nat) (T : Nat → Nat) (p q : Nat) : Nat := lcf n T (n - p) p q
theorem lc_rec (n : Nat) (T : Nat → Nat) (p q : Nat) : lcx n T p q = if p < n ∧ q < n ∧ T p = T q ∧ 8 ≤ T p then lcx n T (p + 1) (q + 1) + 1 else 0 := by
  unfold lcx
  by_cases h : p < n
  · obtain ⟨f, hf⟩ : ∃ f, n - p = f + 1 := ⟨n - p - 1, by omega⟩
    rw [hf, show n - (p + 1) = f by omega]
    rfl
  · rw [show n - p = 0 by omega, if_neg (fun g => h g.1)]
    rfl
theorem lc_spec {n : Nat} {T : Nat → Nat} : ∀ (d p q : Nat), n - p ≤ d → (∀ i, i < lcx n T p q → p + i < n ∧ q + i < n ∧ T (p + i) = T (q + i) ∧ 8 ≤ T (p + i)) ∧ ¬ (p + lcx n T p q < n ∧ q + lcx n T p q < n ∧ T (p + lcx n T p q) = T (q + lcx n T p q) ∧ 8 ≤ T (p + lcx n T p q)) := by
  intro d
  induction d with
  | zero =>
    intro p q hd
    have h0 : lcx n T p q = 0 := by rw [lc_rec, if_neg (fun g => by omega)]
    rw [h0]
    exact ⟨fun i hi => by omega, fun g => by omega⟩
  | succ d ih =>
    intro p q hd
    by_cases h : p < n ∧ q < n ∧ T p = T q ∧ 8 ≤ T p
    · obtain ⟨a, b⟩ := ih (p + 1) (q + 1) (by omega)
      rw [lc_rec, if_pos h]
      refine ⟨fun i hi => ?_, fun g => b ?_⟩
      · cases i with
        | zero => exact h
        | succ i =>
          have := a i (by omega)
          rw [show p + 1 + i = p + (i + 1) by omega, show q + 1 + i = q + (i + 1) by omega] at this
          exact this
      · rw [show p + 1 + lcx n T (p + 1) (q + 1) = p + (lcx n T (p + 1) (q + 1) + 1) by omega, show q + 1 + lcx n T (p + 1) (q + 1) = q + (lcx n T (p + 1) (q + 1) + 1) by omega]
        exact g
    · rw [lc_rec, if_neg h]
      exact ⟨fun i hi => by omega, h⟩
theorem lc_in {n : Nat} {T : Nat → Nat} {p q i : Nat} (h : i < lcx n T p q) : p + i < n ∧ q + i < n ∧ T (p + i) = T (q + i) ∧ 8 ≤ T (p + i) := (lc_spec (n - p) p q (Nat.le_refl _)).1 i h
theorem lc_out {n : Nat} {T : Nat → Nat} {p q : Nat} : ¬ (p + lcx n T p q < n ∧ q + lcx n T p q < n ∧ T (p + lcx n T p q) = T (q + lcx n T p q) ∧ 8 ≤ T (p + lcx n T p q)) := (lc_spec (n - p) p q (Nat.le_refl _)).2
theorem lc_eq {n : Nat} {T : Nat → Nat} {p q k : Nat} (h1 : ∀ i, i < k → p + i < n ∧ q + i < n ∧ T (p + i) = T (q + i) ∧ 8 ≤ T (p + i)) (h2 : ¬ (p + k < n ∧ q + k < n ∧ T (p + k) = T (q + k) ∧ 8 ≤ T (p + k))) : lcx n T p q = k := by
  rcases Nat.lt_trichotomy (lcx n T p q) k with g | g | g
  · exact absurd (h1 _ g) lc_out
  · exact g
  · exact absurd (lc_in g) h2
theorem lc_ge {n : Nat} {T : Nat → Nat} {p q k : Nat} (h1 : ∀ i, i < k → p + i < n ∧ q + i < n ∧ T (p + i) = T (q + i) ∧ 8 ≤ T (p + i)) : k ≤ lcx n T p q := by
  rcases Nat.lt_or_ge (lcx n T p q) k with g | g
  · exact absurd (h1 _ g) lc_out
  · exact g
theorem lc_symm (n : Nat) (T : Nat → Nat) (p q : Nat) : lcx n T p q = lcx n T q p := by
  apply lc_eq
  · intro i hi
    have := lc_in hi
    exact ⟨this.2.1, this.1, this.2.2.1.symm, by rw [← this.2.2.1]; exact this.2.2.2⟩
  · intro g
    exact lc_out (n := n) (T := T) (p := q) (q := p) ⟨g.2.1, g.1, g.2.2.1.symm, by rw [← g.2.2.1]; exact g.2.2.2⟩
section WF
variable {n : Nat} {T tx st en : Nat → Nat}
theorem WFx.end1 (h : WFx n T tx st en) {p q : Nat} (hp : p < n) (hq : q < n) (he : T p = T q) (h8 : T p < 8) : p = q := by
  have a := h.2.2.1 p hp h8
  have b := h.2.2.1 q hq (by omega)
  have a2 := (h.2.1 p hp).2.2.2.2.2.1
  have b2 := (h.2.1 q hq).2.2.2.2.2.1
  rw [← a] at a2
  rw [← b] at b2
  rw [a, b, ← a2, ← b2, he]
theorem WFx.self (h : WFx n T tx st en) {p : Nat} (hp : p < n) : lcx n T p p = en (tx p) - p := by
  have a := h.2.1 p hp
  apply lc_eq
  · intro i hi
    have := (h.2.2.2 p (p + i) hp (by omega) (by omega)).1
    exact ⟨by omega, by omega, rfl, this⟩
  · intro g
    rw [show p + (en (tx p) - p) = en (tx p) by omega] at g
    omega
theorem lc_le_self {p q : Nat} : lcx n T p q ≤ lcx n T p p := lc_ge fun i hi => by
  have := lc_in hi
  exact ⟨this.1, this.1, rfl, this.2.2.2⟩
theorem WFx.lcn (h : WFx n T tx st en) {p : Nat} (hp : p < n) (q : Nat) : p + lcx n T p q < n ∧ lcx n T p q ≤ 400 + 8 := by
  have a := h.2.1 p hp
  have b := lc_le_self (n := n) (T := T) (p := p) (q := q)
  rw [h.self hp] at b
  have := h.1
  omega
/-- where two suffixes part, their letters differ -/
theorem WFx.part (h : WFx n T tx st en) {p q : Nat} (hp : p < n) (hq : q < n) (hne : p ≠ q) : T (p + lcx n T p q) ≠ T (q + lcx n T p q) := by
  intro he
  have a := (h.lcn hp q).1
  have b := (h.lcn hq p).1
  rw [lc_symm] at b
  by_cases h8 : 8 ≤ T (p + lcx n T p q)
  · exact lc_out ⟨a, b, he, h8⟩
  · have := h.end1 a b he (by omega)
    omega
theorem WFx.less (h : WFx n T tx st en) {p q : Nat} (hp : p < n) (hq : q < n) : slt n T p q ↔ T (p + lcx n T p q) < T (q + lcx n T p q) := by
  have a := (h.lcn hp q).1
  have b := (h.lcn hq p).1
  rw [lc_symm] at b
  have mk : ∀ x y, x < n → y < n → T (x + lcx n T x y) < T (y + lcx n T x y) → slt n T x y := by
    intro x y hx hy hlt
    have c := (h.lcn hx y).1
    have d := (h.lcn hy x).1
    rw [lc_symm] at d
    exact ⟨lcx n T x y, fun i hi => ⟨(lc_in hi).1, (lc_in hi).2.1, (lc_in hi).2.2.1⟩, d, Or.inr ⟨c, hlt⟩⟩
  constructor
  · intro g
    rcases Nat.lt_trichotomy (T (p + lcx n T p q)) (T (q + lcx n T p q)) with w | w | w
    · exact w
    · by_cases e : p = q
      · subst e; exact (slt_irr g).elim
      · exact absurd w (h.part hp hq e)
    · refine (slt_asymm g (mk q p hq hp ?_)).elim
      rw [lc_symm]; exact w
  · exact mk p q hp hq
end WF
