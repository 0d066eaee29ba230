/-! Int32 by numbers -/
theorem nI_lt_iff {a b : Nat} (ha : a < 2147483648) (hb : b < 2147483648) : nI a < nI b ↔ a < b := by
  rw [Int32.lt_iff_toInt_lt, nI_toInt ha, nI_toInt hb]; omega
theorem nI_le_iff {a b : Nat} (ha : a < 2147483648) (hb : b < 2147483648) : nI a ≤ nI b ↔ a ≤ b := by
  rw [Int32.le_iff_toInt_le, nI_toInt ha, nI_toInt hb]; omega
theorem nI_eq_iff {a b : Nat} (ha : a < 2147483648) (hb : b < 2147483648) : nI a = nI b ↔ a = b := by
  rw [← Int32.toInt_inj, nI_toInt ha, nI_toInt hb]; omega
theorem nI_plus (a b : Nat) : nI a + nI b = nI (a + b) := by
  unfold nI; exact (Int32.ofNat_add a b).symm
theorem nI_mul (a b : Nat) : nI a * nI b = nI (a * b) := by
  unfold nI; exact (Int32.ofNat_mul a b).symm
theorem nI_sub {a b : Nat} (h : b ≤ a) : nI a - nI b = nI (a - b) := by
  unfold nI; exact (Int32.ofNat_sub a b h).symm
theorem nI_lt0 {a : Nat} (ha : a < 2147483648) : ¬ nI a < 0 := nI_pos ha
theorem nI_le0 {a : Nat} (ha : a < 2147483648) : nI a ≤ 0 ↔ a = 0 := by
  have : (0 : Int32) = nI 0 := rfl
  rw [this, nI_le_iff ha (by omega)]; omega
theorem nI_0lt {a : Nat} (ha : a < 2147483648) : 0 < nI a ↔ 0 < a := by
  have : (0 : Int32) = nI 0 := rfl
  rw [this, nI_lt_iff (by omega) ha]
theorem nI_eq0 {a : Nat} (ha : a < 2147483648) : nI a = 0 ↔ a = 0 := by
  have : (0 : Int32) = nI 0 := rfl
  rw [this, nI_eq_iff ha (by omega)]
theorem nI_nem1 {a : Nat} (ha : a < 2147483648) : nI a ≠ -1 := by
  intro h
  have h1 := nI_toInt ha
  rw [h] at h1
  have h2 : (-1 : Int32).toInt = -1 := by decide
  omega
theorem nI_add1 (a : Nat) : nI a + 1 = nI (a + 1) := (nI_succ a).symm
theorem nI_sub1 (a : Nat) : nI (a + 1) - 1 = nI a := nI_pred a
theorem nI_addm1 (x : Int32) : x + (-1) = x - 1 := by
  exact (Int32.sub_eq_add_neg x 1).symm
theorem nI_dn {a : Nat} (ha : a < 2147483648) : nI a - 1 < 0 ↔ a = 0 := by
  cases a with
  | zero => exact ⟨fun _ => rfl, fun _ => by decide⟩
  | succ a =>
    rw [nI_sub1]
    constructor
    · intro h; exact absurd h (nI_pos (by omega))
    · intro h; omega
theorem xin_nI {a N : Nat} (ha : a < 2147483648) : xin (nI a) N ↔ a < N := by
  unfold xin
  rw [nI_clamp ha]
  constructor
  · intro h
    rcases Nat.lt_or_ge a N with g | g
    · exact g
    · exact absurd (Or.inr g) h
  · rintro h (g | g)
    · exact nI_pos ha g
    · omega
theorem xin_of {a N : Nat} (h : a < N) (hN : N < 2147483648) : xin (nI a) N := (xin_nI (by omega)).mpr h
theorem xin_ex {x : Int32} {N : Nat} (h : xin x N) : ∃ a, a < N ∧ x = nI a := by
  have h1 : ¬ x < 0 := fun g => h (Or.inl g)
  have h2 : x.toNatClampNeg < N := by
    rcases Nat.lt_or_ge x.toNatClampNeg N with g | g
    · exact g
    · exact absurd (Or.inr g) h
  refine ⟨x.toNatClampNeg, h2, ?_⟩
  have h3 : 0 ≤ x.toInt := by
    rw [Int32.lt_iff_toInt_lt] at h1
    have : (0 : Int32).toInt = 0 := rfl
    omega
  have h4 : (x.toNatClampNeg : Int) = x.toInt := by
    unfold Int32.toNatClampNeg
    omega
  have h5 : x.toInt < 2147483648 := Int32.toInt_lt x
  apply Int32.toInt_inj.mp
  rw [nI_toInt (by omega)]
  omega
theorem xst_st (M : xM) (k : Nat) (f : Nat → Int32) (a : Nat) : xst M k f a = if a = k then f else M a := rfl
theorem xs1_self (M : xM) (k j : Nat) (v : Int32) : xs1 M k j v k j = v := by simp [xs1, xst, upd]
theorem xs1_cell (M : xM) (k j : Nat) (v : Int32) (i : Nat) : xs1 M k j v k i = if i = j then v else M k i := by simp [xs1, xst, upd]
theorem xs1_ne {M : xM} {k j : Nat} {v : Int32} {a : Nat} (h : a ≠ k) : xs1 M k j v a = M a := by simp [xs1, xst, h]
/-- a value of the sorter's row -/
def enc (o : Option Nat) : Int32 := match o with
  | none => -1
  | some p => nI p
theorem ifp {c : Prop} {α : Type} {d : Decidable c} {a b : α} (h : c) : @ite _ c d a b = a := if_pos h
theorem ifm {c : Prop} {α : Type} {d : Decidable c} {a b : α} (h : ¬ c) : @ite _ c d a b = b := if_neg h
