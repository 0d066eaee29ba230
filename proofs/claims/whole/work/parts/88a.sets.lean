/-! SETS OF PLACES: how many, the least, the greatest, of how many texts -/
def cny (P : Nat → Prop) [DecidablePred P] : Nat → Nat
  | 0 => 0
  | k + 1 => cny P k + (if P k then 1 else 0)
theorem cny_le (P : Nat → Prop) [DecidablePred P] : ∀ k, cny P k ≤ k := by
  intro k
  induction k with
  | zero => exact Nat.le_refl 0
  | succ k ih => show cny P k + _ ≤ _; split <;> omega
theorem cny_add (P Q : Nat → Prop) [DecidablePred P] [DecidablePred Q] {n q : Nat} (hq : q < n) (h0 : ¬ P q) (h : ∀ p, p < n → (Q p ↔ P p ∨ p = q)) : ∀ k, k ≤ n → cny Q k = cny P k + (if q < k then 1 else 0) := by
  intro k
  induction k with
  | zero => intro _; rfl
  | succ k ih =>
    intro hk
    have e1 : cny Q (k + 1) = cny Q k + (if Q k then 1 else 0) := rfl
    have e2 : cny P (k + 1) = cny P k + (if P k then 1 else 0) := rfl
    rw [e1, e2, ih (by omega)]
    have a := h k (by omega)
    by_cases g : k = q
    · subst g
      rw [if_pos (a.mpr (Or.inr rfl)), if_neg h0, if_neg (Nat.lt_irrefl k), if_pos (by omega)]
    · have b : Q k ↔ P k := by rw [a]; exact ⟨fun h => by rcases h with h | h; exact h; exact absurd h g, Or.inl⟩
      have hh : (if Q k then 1 else 0 : Nat) = if P k then 1 else 0 := by
        by_cases g3 : P k
        · rw [if_pos (b.mpr g3), if_pos g3]
        · rw [if_neg (fun h => g3 (b.mp h)), if_neg g3]
      have h2 : (if q < k + 1 then 1 else 0 : Nat) = if q < k then 1 else 0 := by
        by_cases g3 : q < k
        · rw [if_pos g3, if_pos (by omega)]
        · rw [if_neg g3, if_neg (by omega)]
      rw [hh, h2]
      omega
theorem cny_zero (P : Nat → Prop) [DecidablePred P] : ∀ k, (∀ p, p < k → ¬ P p) → cny P k = 0 := by
  intro k
  induction k with
  | zero => intro _; rfl
  | succ k ih => intro h; show cny P k + _ = 0; rw [ih (fun p hp => h p (by omega)), if_neg (h k (by omega))]
theorem cny_congr (P Q : Nat → Prop) [DecidablePred P] [DecidablePred Q] : ∀ k, (∀ p, p < k → (P p ↔ Q p)) → cny P k = cny Q k := by
  intro k
  induction k with
  | zero => intro _; rfl
  | succ k ih =>
    intro h
    show cny P k + _ = cny Q k + _
    rw [ih (fun p hp => h p (by omega))]
    by_cases g : P k
    · rw [if_pos g, if_pos ((h k (by omega)).mp g)]
    · rw [if_neg g, if_neg (fun x => g ((h k (by omega)).mpr x))]
/-- the places whose ranks are from a to b -/
theorem cny_rng {n : Nat} {T SA rk : Nat → Nat} (hP : PM n T SA rk) {a : Nat} : ∀ (d : Nat) (P : Nat → Prop) [DecidablePred P], a + d ≤ n → (∀ p, p < n → (P p ↔ a ≤ rk p ∧ rk p < a + d)) → cny P n = d := by
  intro d
  induction d with
  | zero => intro P _ hd h; exact cny_zero P n (fun p hp g => by have := (h p hp).mp g; omega)
  | succ d ih =>
    intro P _ hd h
    have hb := hP.1 (a + d) (by omega)
    have e := ih (fun p => a ≤ rk p ∧ rk p < a + d) (by omega) (fun p hp => Iff.rfl)
    rw [cny_add (fun p => a ≤ rk p ∧ rk p < a + d) P hb.1 (by rw [hb.2]; omega) (fun p hp => ?_) n (Nat.le_refl n), e, if_pos hb.1]
    rw [h p hp]
    constructor
    · intro g
      by_cases g2 : rk p = a + d
      · right
        have := (hP.2.1 p hp).2
        rw [g2] at this
        exact this.symm
      · left; omega
    · rintro (g | g)
      · omega
      · rw [g, hb.2]; omega
def isLst (P : Nat → Prop) (k : Nat) (o : Option Nat) : Prop := (o = none ∧ ∀ p, p < k → ¬ P p) ∨ ∃ q, o = some q ∧ q < k ∧ P q ∧ ∀ p, p < q → ¬ P p
def isGst (P : Nat → Prop) (k : Nat) (o : Option Nat) : Prop := (o = none ∧ ∀ p, p < k → ¬ P p) ∨ ∃ q, o = some q ∧ q < k ∧ P q ∧ ∀ p, q < p → p < k → ¬ P p
theorem isLst.one {P : Nat → Prop} {k : Nat} {o o' : Option Nat} (h : isLst P k o) (h' : isLst P k o') : o = o' := by
  rcases h with ⟨a, b⟩ | ⟨q, a, b, c, d⟩
  · rcases h' with ⟨a', b'⟩ | ⟨q', a', b', c', d'⟩
    · rw [a, a']
    · exact absurd c' (b q' b')
  · rcases h' with ⟨a', b'⟩ | ⟨q', a', b', c', d'⟩
    · exact absurd c (b' q b)
    · rw [a, a']
      rcases Nat.lt_trichotomy q q' with g | g | g
      · exact absurd c (d' q g)
      · rw [g]
      · exact absurd c' (d q' g)
theorem isGst.one {P : Nat → Prop} {k : Nat} {o o' : Option Nat} (h : isGst P k o) (h' : isGst P k o') : o = o' := by
  rcases h with ⟨a, b⟩ | ⟨q, a, b, c, d⟩
  · rcases h' with ⟨a', b'⟩ | ⟨q', a', b', c', d'⟩
    · rw [a, a']
    · exact absurd c' (b q' b')
  · rcases h' with ⟨a', b'⟩ | ⟨q', a', b', c', d'⟩
    · exact absurd c (b' q b)
    · rw [a, a']
      rcases Nat.lt_trichotomy q q' with g | g | g
      · exact absurd c' (d q' g b')
      · rw [g]
      · exact absurd c (d' q g b)
theorem isLst.skip {P : Nat → Prop} {k : Nat} {o : Option Nat} (h : isLst P k o) (hk : ¬ P k) : isLst P (k + 1) o := by
  rcases h with ⟨a, b⟩ | ⟨q, a, b, c, d⟩
  · refine Or.inl ⟨a, fun p hp => ?_⟩
    rcases Nat.lt_or_ge p k with g | g
    · exact b p g
    · rw [show p = k by omega]; exact hk
  · exact Or.inr ⟨q, a, by omega, c, d⟩
theorem isLst.new {P : Nat → Prop} {k : Nat} (h : isLst P k none) (hk : P k) : isLst P (k + 1) (some k) := by
  rcases h with ⟨a, b⟩ | ⟨q, a, -⟩
  · exact Or.inr ⟨k, rfl, by omega, hk, b⟩
  · cases a
theorem isLst.old {P : Nat → Prop} {k q : Nat} (h : isLst P k (some q)) : isLst P (k + 1) (some q) := by
  rcases h with ⟨a, b⟩ | ⟨q', a, b, c, d⟩
  · cases a
  · cases a
    exact Or.inr ⟨q, rfl, by omega, c, d⟩
theorem isLst.lt {P : Nat → Prop} {k q : Nat} (h : isLst P k (some q)) : q < k := by
  rcases h with ⟨a, b⟩ | ⟨q', a, b, c, d⟩
  · cases a
  · cases a
    exact b
theorem isGst.skip {P : Nat → Prop} {k : Nat} {o : Option Nat} (h : isGst P k o) (hk : ¬ P k) : isGst P (k + 1) o := by
  rcases h with ⟨a, b⟩ | ⟨q, a, b, c, d⟩
  · refine Or.inl ⟨a, fun p hp => ?_⟩
    rcases Nat.lt_or_ge p k with g | g
    · exact b p g
    · rw [show p = k by omega]; exact hk
  · refine Or.inr ⟨q, a, by omega, c, fun p hp hp2 => ?_⟩
    rcases Nat.lt_or_ge p k with g | g
    · exact d p hp g
    · rw [show p = k by omega]; exact hk
theorem isGst.new {P : Nat → Prop} {k : Nat} (hk : P k) : isGst P (k + 1) (some k) := Or.inr ⟨k, rfl, by omega, hk, fun p h1 h2 => by omega⟩
/-! masks of texts -/
def popc (m : Nat) : Nat := (if m.testBit 0 then 1 else 0) + (if m.testBit 1 then 1 else 0) + (if m.testBit 2 then 1 else 0) + (if m.testBit 3 then 1 else 0) + (if m.testBit 4 then 1 else 0) + (if m.testBit 5 then 1 else 0) + (if m.testBit 6 then 1 else 0) + (if m.testBit 7 then 1 else 0)
def bitC (x0 : Int32) : Option Int32 := fJ6_bitCount_0f7a4 x0 (fun _ _ => 0)
set_option maxRecDepth 100000 in
theorem mask_or : ∀ m, m < 256 → ∀ t, t < 8 → (nI m ||| ((1 : Int32) <<< (nI t &&& 31))) = nI (m ||| 2 ^ t) ∧ (m ||| 2 ^ t) < 256 := by decide +kernel
set_option maxRecDepth 100000 in
theorem mask_at : ∀ m, m < 256 → ∀ t, t < 8 → ((((nI m) >>> (nI t &&& 31)) &&& 1) = 0 ↔ m.testBit t = false) := by decide +kernel
set_option maxRecDepth 100000 in
theorem mask_pop : ∀ m, m < 256 → ∀ t, t < 8 → popc (m ||| 2 ^ t) = popc m + (if m.testBit t then 0 else 1) := by decide +kernel
set_option maxRecDepth 100000 in
theorem mask_bits : ∀ m, m < 256 → bitC (nI m) = some (nI (popc m)) := by decide +kernel
theorem popc_le (m : Nat) : popc m ≤ 8 := by
  unfold popc
  repeat' split
  all_goals omega
theorem bitC_ok {m : Nat} (h : m < 256) (M : xM) : fJ6_bitCount_0f7a4 (nI m) M = some (nI (popc m)) := mask_bits m h
def isMsk (tx : Nat → Nat) (P : Nat → Prop) (k m : Nat) : Prop := m < 256 ∧ ∀ t, t < 8 → (m.testBit t = true ↔ ∃ p, p < k ∧ P p ∧ tx p = t)
theorem msk_eq {m m' : Nat} (h : m < 256) (h' : m' < 256) (hb : ∀ t, t < 8 → (m.testBit t = true ↔ m'.testBit t = true)) : m = m' := by
  apply Nat.eq_of_testBit_eq
  intro i
  rcases Nat.lt_or_ge i 8 with g | g
  · have := hb i g
    cases e1 : m.testBit i with
    | true => exact (this.mp e1).symm
    | false =>
      cases e2 : m'.testBit i with
      | true => rw [this.mpr e2] at e1; cases e1
      | false => rfl
  · have hp : 2 ^ 8 ≤ 2 ^ i := Nat.pow_le_pow_right (by omega) g
    rw [Nat.testBit_lt_two_pow (by omega), Nat.testBit_lt_two_pow (by omega)]
theorem isMsk.one {tx : Nat → Nat} {P : Nat → Prop} {k m m' : Nat} (h : isMsk tx P k m) (h' : isMsk tx P k m') : m = m' := msk_eq h.1 h'.1 fun t ht => by rw [h.2 t ht, h'.2 t ht]
theorem or_bit {m t u : Nat} : (m ||| 2 ^ t).testBit u = true ↔ m.testBit u = true ∨ t = u := by
  rw [Nat.testBit_or, Nat.testBit_two_pow, Bool.or_eq_true, decide_eq_true_iff]
theorem isMsk.zero {tx : Nat → Nat} {P : Nat → Prop} : isMsk tx P 0 0 := ⟨by omega, fun t _ => by
  rw [Nat.zero_testBit]
  exact ⟨fun h => Bool.noConfusion h, fun ⟨p, hp, _⟩ => by omega⟩⟩
theorem isMsk.skip {tx : Nat → Nat} {P : Nat → Prop} {k m : Nat} (h : isMsk tx P k m) (hk : ¬ P k) : isMsk tx P (k + 1) m := ⟨h.1, fun t ht => by
  rw [h.2 t ht]
  constructor
  · rintro ⟨p, a, b⟩; exact ⟨p, by omega, b⟩
  · rintro ⟨p, a, b⟩
    refine ⟨p, ?_, b⟩
    rcases Nat.lt_or_ge p k with g | g
    · exact g
    · rw [show p = k by omega] at b; exact absurd b.1 hk⟩
theorem isMsk.new {tx : Nat → Nat} {P : Nat → Prop} {k m : Nat} (h : isMsk tx P k m) (hk : P k) (ht : tx k < 8) : isMsk tx P (k + 1) (m ||| 2 ^ tx k) := ⟨(mask_or m h.1 _ ht).2, fun t ht => by
  rw [or_bit, h.2 t ht]
  constructor
  · rintro (⟨p, a, b⟩ | e)
    · exact ⟨p, by omega, b⟩
    · exact ⟨k, by omega, hk, e⟩
  · rintro ⟨p, a, b, c⟩
    rcases Nat.lt_or_ge p k with g | g
    · exact Or.inl ⟨p, g, b, c⟩
    · rw [show p = k by omega] at c; exact Or.inr c⟩
