/-! A RANGE OF THE ROW: its texts, its least and its greatest place -/
section RNG
variable {n : Nat} {T tx st en SA rk : Nat → Nat} {cp : Nat → Option Nat} {cl : Nat → Nat} {M : xM}
theorem texts_loop (hc : RBc M n T tx st en SA rk cp cl) {a b : Nat} (hb : b ≤ n) : ∀ (d i fuel m : Nat), i + d = b → a ≤ i → d < fuel → m < 256 → (∀ t, t < 8 → (m.testBit t = true ↔ ∃ j, a ≤ j ∧ j < i ∧ tx (SA j) = t)) →
    ∃ m2, fX3_countTexts_5 fuel (nI b) (nI m) (nI i) M = some (nI (popc m2)) ∧ m2 < 256 ∧ ∀ t, t < 8 → (m2.testBit t = true ↔ ∃ j, a ≤ j ∧ j < b ∧ tx (SA j) = t) := by
  have hn := hc.1.1
  intro d
  induction d with
  | zero =>
    intro i fuel m hi ha hf hm h
    obtain ⟨f, rfl⟩ : ∃ f, fuel = f + 1 := ⟨fuel - 1, by omega⟩
    have e : i = b := by omega
    subst e
    exact ⟨m, by simp (disch := omega) only [fX3_countTexts_5_s, nI_le_iff, if_pos, fX3_countTexts_37_s, bitC_ok hm, Option.bind_some], hm, h⟩
  | succ d ih =>
    intro i fuel m hi ha hf hm h
    obtain ⟨f, rfl⟩ : ∃ f, fuel = f + 1 := ⟨fuel - 1, by omega⟩
    have hin : i < n := by omega
    have hs := (hc.2.1.1 i hin).1
    have h10 := hc.2.2.1.2.1 i hin
    have h6 := (hc.2.2.1.1.2.1 _ hs).2
    have ht := (hc.1.2.1 _ hs).2.1
    obtain ⟨mo, ml⟩ := mask_or m hm _ ht
    obtain ⟨m2, e1, e2, e3⟩ := ih (i + 1) f (m ||| 2 ^ tx (SA i)) (by omega) (by omega) (by omega) ml (fun t h8 => by
      rw [or_bit, h t h8]
      constructor
      · rintro (⟨j, a1, a2, a3⟩ | g)
        · exact ⟨j, a1, by omega, a3⟩
        · exact ⟨i, ha, by omega, g⟩
      · rintro ⟨j, a1, a2, a3⟩
        rcases Nat.lt_or_ge j i with g | g
        · exact Or.inl ⟨j, a1, g, a3⟩
        · rw [show j = i by omega] at a3; exact Or.inr a3)
    refine ⟨m2, ?_, e2, e3⟩
    simp (disch := omega) only [fX3_countTexts_5_s, nI_le_iff, if_neg, xin_nI, nI_clamp, if_pos, h10, h6, mo, xlt_def, nI_add1, e1]
theorem texts_ok (hc : RBc M n T tx st en SA rk cp cl) {a b : Nat} (hab : a ≤ b) (hb : b ≤ n) {P : Nat → Prop} (hP : ∀ p, p < n → (P p ↔ a ≤ rk p ∧ rk p < b)) : ∃ m, fX3_countTexts (nI a) (nI b) M = some (nI (popc m)) ∧ isMsk tx P n m := by
  have hn := hc.1.1
  obtain ⟨m, e1, e2, e3⟩ := texts_loop hc hb (b - a) a 4096 0 (by omega) (Nat.le_refl a) (by omega) (by omega) (fun t ht => by
    rw [Nat.zero_testBit]
    exact ⟨fun h => Bool.noConfusion h, fun ⟨j, h1, h2, _⟩ => by omega⟩)
  refine ⟨m, by rw [fX3_countTexts_s]; exact e1, e2, fun t ht => ?_⟩
  rw [e3 t ht]
  constructor
  · rintro ⟨j, a1, a2, a3⟩
    have := hc.2.1.1 j (by omega)
    exact ⟨SA j, this.1, (hP _ this.1).mpr (by rw [this.2]; omega), a3⟩
  · rintro ⟨p, a1, a2, a3⟩
    have h := (hP p a1).mp a2
    refine ⟨rk p, h.1, h.2, ?_⟩
    rw [(hc.2.1.2.1 p a1).2]
    exact a3
def rLst (SA : Nat → Nat) (a i : Nat) (o : Option Nat) : Prop := (o = none ∧ i = a) ∨ ∃ j, a ≤ j ∧ j < i ∧ o = some (SA j) ∧ ∀ j', a ≤ j' → j' < i → SA j ≤ SA j'
def rGst (SA : Nat → Nat) (a i : Nat) (o : Option Nat) : Prop := (o = none ∧ i = a) ∨ ∃ j, a ≤ j ∧ j < i ∧ o = some (SA j) ∧ ∀ j', a ≤ j' → j' < i → SA j' ≤ SA j
theorem least_loop2 (hc : RBc M n T tx st en SA rk cp cl) {a b : Nat} (hb : b ≤ n) : ∀ (d i fuel : Nat) (o : Option Nat), i + d = b → a ≤ i → d < fuel → rLst SA a i o → ∃ o2, fX3_leastPlace_5 fuel (nI b) (enc o) (nI i) M = some (enc o2) ∧ rLst SA a b o2 := by
  have hn := hc.1.1
  intro d
  induction d with
  | zero =>
    intro i fuel o hi ha hf h
    obtain ⟨f, rfl⟩ : ∃ f, fuel = f + 1 := ⟨fuel - 1, by omega⟩
    have e : i = b := by omega
    subst e
    exact ⟨o, by simp (disch := omega) only [fX3_leastPlace_5_s, nI_le_iff, if_pos], h⟩
  | succ d ih =>
    intro i fuel o hi ha hf h
    obtain ⟨f, rfl⟩ : ∃ f, fuel = f + 1 := ⟨fuel - 1, by omega⟩
    have hin : i < n := by omega
    have hs := (hc.2.1.1 i hin).1
    have h10 := hc.2.2.1.2.1 i hin
    have new : (∀ j', a ≤ j' → j' < i → SA i ≤ SA j') → ∃ o2, fX3_leastPlace_27 (fX3_leastPlace_5 f) (nI b) (nI i) M = some (enc o2) ∧ rLst SA a b o2 := by
      intro hh
      obtain ⟨o2, e1, e2⟩ := ih (i + 1) f (some (SA i)) (by omega) (by omega) (by omega) (Or.inr ⟨i, ha, by omega, rfl, fun j' h1 h2 => by
        rcases Nat.lt_or_ge j' i with g | g
        · exact hh j' h1 g
        · rw [show j' = i by omega]; exact Nat.le_refl _⟩)
      have e1' : fX3_leastPlace_5 f (nI b) (nI (SA i)) (nI (i + 1)) M = some (enc o2) := e1
      exact ⟨o2, by simp (disch := omega) only [fX3_leastPlace_27_s, xin_nI, nI_clamp, if_pos, h10, fX3_leastPlace_35_s, nI_add1, e1'], e2⟩
    rcases h with ⟨rfl, h1⟩ | ⟨j, h1, h2, rfl, h3⟩
    · obtain ⟨o2, e1, e2⟩ := new (fun j' h3 h4 => by omega)
      refine ⟨o2, ?_, e2⟩
      have z : enc none = -1 := rfl
      simp (disch := omega) only [fX3_leastPlace_5_s, nI_le_iff, if_neg, z, if_true, e1]
    · have hsj := (hc.2.1.1 j (by omega)).1
      have z : ¬ nI (SA j) = -1 := nI_nem1 (by omega)
      show ∃ o2, fX3_leastPlace_5 (f + 1) (nI b) (nI (SA j)) (nI i) M = some (enc o2) ∧ rLst SA a b o2
      by_cases g : SA j ≤ SA i
      · obtain ⟨o2, e1, e2⟩ := ih (i + 1) f (some (SA j)) (by omega) (by omega) (by omega) (Or.inr ⟨j, h1, by omega, rfl, fun j' h4 h5 => by
          rcases Nat.lt_or_ge j' i with g2 | g2
          · exact h3 j' h4 g2
          · rw [show j' = i by omega]; exact g⟩)
        have e1' : fX3_leastPlace_5 f (nI b) (nI (SA j)) (nI (i + 1)) M = some (enc o2) := e1
        refine ⟨o2, ?_, e2⟩
        simp (disch := omega) only [fX3_leastPlace_5_s, nI_le_iff, if_neg, z, if_false, xin_nI, nI_clamp, if_pos, h10, fX3_leastPlace_35_s, nI_add1, e1']
      · obtain ⟨o2, e1, e2⟩ := new (fun j' h4 h5 => by have := h3 j' h4 h5; omega)
        refine ⟨o2, ?_, e2⟩
        simp (disch := omega) only [fX3_leastPlace_5_s, nI_le_iff, if_neg, z, if_false, xin_nI, nI_clamp, if_pos, h10, e1]
theorem least_ok (hc : RBc M n T tx st en SA rk cp cl) {a b : Nat} (hab : a ≤ b) (hb : b ≤ n) {P : Nat → Prop} (hP : ∀ p, p < n → (P p ↔ a ≤ rk p ∧ rk p < b)) : ∃ o, fX3_leastPlace (nI a) (nI b) M = some (enc o) ∧ isLst P n o := by
  have hn := hc.1.1
  obtain ⟨o, e1, e2⟩ := least_loop2 hc hb (b - a) a 4096 none (by omega) (Nat.le_refl a) (by omega) (Or.inl ⟨rfl, rfl⟩)
  refine ⟨o, by rw [fX3_leastPlace_s]; exact e1, ?_⟩
  rcases e2 with ⟨h1, h2⟩ | ⟨j, h1, h2, h3, h4⟩
  · exact Or.inl ⟨h1, fun p hp g => by have := (hP p hp).mp g; omega⟩
  · have hj := hc.2.1.1 j (by omega)
    refine Or.inr ⟨SA j, h3, hj.1, (hP _ hj.1).mpr (by rw [hj.2]; omega), fun p hp g => ?_⟩
    have hpn : p < n := by omega
    have h5 := (hP p hpn).mp g
    have := h4 (rk p) h5.1 h5.2
    rw [(hc.2.1.2.1 p hpn).2] at this
    omega
theorem great_loop (hc : RBc M n T tx st en SA rk cp cl) {a b : Nat} (hb : b ≤ n) : ∀ (d i fuel : Nat) (o : Option Nat), i + d = b → a ≤ i → d < fuel → rGst SA a i o → ∃ o2, fX3_greatestPlace_5 fuel (nI b) (enc o) (nI i) M = some (enc o2) ∧ rGst SA a b o2 := by
  have hn := hc.1.1
  intro d
  induction d with
  | zero =>
    intro i fuel o hi ha hf h
    obtain ⟨f, rfl⟩ : ∃ f, fuel = f + 1 := ⟨fuel - 1, by omega⟩
    have e : i = b := by omega
    subst e
    exact ⟨o, by simp (disch := omega) only [fX3_greatestPlace_5_s, nI_le_iff, if_pos], h⟩
  | succ d ih =>
    intro i fuel o hi ha hf h
    obtain ⟨f, rfl⟩ : ∃ f, fuel = f + 1 := ⟨fuel - 1, by omega⟩
    have hin : i < n := by omega
    have hs := (hc.2.1.1 i hin).1
    have h10 := hc.2.2.1.2.1 i hin
    have new : (∀ j', a ≤ j' → j' < i → SA j' ≤ SA i) → ∃ o2, fX3_greatestPlace_5 f (nI b) (nI (SA i)) (nI (i + 1)) M = some (enc o2) ∧ rGst SA a b o2 := by
      intro hh
      exact ih (i + 1) f (some (SA i)) (by omega) (by omega) (by omega) (Or.inr ⟨i, ha, by omega, rfl, fun j' h1 h2 => by
        rcases Nat.lt_or_ge j' i with g | g
        · exact hh j' h1 g
        · rw [show j' = i by omega]; exact Nat.le_refl _⟩)
    rcases h with ⟨rfl, h1⟩ | ⟨j, h1, h2, rfl, h3⟩
    · obtain ⟨o2, e1, e2⟩ := new (fun j' h3 h4 => by omega)
      refine ⟨o2, ?_, e2⟩
      have z : enc none = -1 := rfl
      have z2 : (-1 : Int32) < nI (SA i) := by
        rw [Int32.lt_iff_toInt_lt, nI_toInt (by omega)]
        have : (-1 : Int32).toInt = -1 := rfl
        omega
      simp (disch := omega) only [fX3_greatestPlace_5_s, nI_le_iff, if_neg, z, xin_nI, nI_clamp, if_pos, h10, z2, if_true, xlt_def, nI_add1, e1]
    · have hsj := (hc.2.1.1 j (by omega)).1
      show ∃ o2, fX3_greatestPlace_5 (f + 1) (nI b) (nI (SA j)) (nI i) M = some (enc o2) ∧ rGst SA a b o2
      by_cases g : SA j < SA i
      · obtain ⟨o2, e1, e2⟩ := new (fun j' h4 h5 => by have := h3 j' h4 h5; omega)
        refine ⟨o2, ?_, e2⟩
        simp (disch := omega) only [fX3_greatestPlace_5_s, nI_le_iff, nI_lt_iff, if_neg, xin_nI, nI_clamp, if_pos, h10, xlt_def, nI_add1, e1]
      · obtain ⟨o2, e1, e2⟩ := ih (i + 1) f (some (SA j)) (by omega) (by omega) (by omega) (Or.inr ⟨j, h1, by omega, rfl, fun j' h4 h5 => by
          rcases Nat.lt_or_ge j' i with g2 | g2
          · exact h3 j' h4 g2
          · rw [show j' = i by omega]; omega⟩)
        have e1' : fX3_greatestPlace_5 f (nI b) (nI (SA j)) (nI (i + 1)) M = some (enc o2) := e1
        refine ⟨o2, ?_, e2⟩
        simp (disch := omega) only [fX3_greatestPlace_5_s, nI_le_iff, nI_lt_iff, if_neg, xin_nI, nI_clamp, if_pos, h10, xlt_def, nI_add1, e1']
theorem great_ok (hc : RBc M n T tx st en SA rk cp cl) {a b : Nat} (hab : a ≤ b) (hb : b ≤ n) {P : Nat → Prop} (hP : ∀ p, p < n → (P p ↔ a ≤ rk p ∧ rk p < b)) : ∃ o, fX3_greatestPlace (nI a) (nI b) M = some (enc o) ∧ isGst P n o := by
  have hn := hc.1.1
  obtain ⟨o, e1, e2⟩ := great_loop hc hb (b - a) a 4096 none (by omega) (Nat.le_refl a) (by omega) (Or.inl ⟨rfl, rfl⟩)
  refine ⟨o, by rw [fX3_greatestPlace_s]; exact e1, ?_⟩
  rcases e2 with ⟨h1, h2⟩ | ⟨j, h1, h2, h3, h4⟩
  · exact Or.inl ⟨h1, fun p hp g => by have := (hP p hp).mp g; omega⟩
  · have hj := hc.2.1.1 j (by omega)
    refine Or.inr ⟨SA j, h3, hj.1, (hP _ hj.1).mpr (by rw [hj.2]; omega), fun p hp hpn g => ?_⟩
    have h5 := (hP p hpn).mp g
    have := h4 (rk p) h5.1 h5.2
    rw [(hc.2.1.2.1 p hpn).2] at this
    omega
end RNG
