/-! THE ASKS, one by one -/
theorem has_0 {x : Int32} {n : Nat} (hn : n ≤ 408) {v : Int32} (hv : v = nI n) (h : ¬ xin x n) : (if x < 0 then (some (0 : Int32)) else (if v ≤ x then (some 0) else (some 1))) = some 0 := by
  subst hv
  by_cases h1 : x < 0
  · rw [if_pos h1]
  · rw [if_neg h1]
    obtain ⟨c, hc, rfl⟩ := nn_ex h1
    rw [if_pos]
    rw [nI_le_iff (by omega) hc]
    rcases Nat.lt_or_ge c n with g | g
    · exact absurd ((xin_nI hc).mpr g) h
    · exact g
theorem has_1 {p n : Nat} (hn : n ≤ 408) {v : Int32} (hv : v = nI n) (h : p < n) : (if nI p < 0 then (some (0 : Int32)) else (if v ≤ nI p then (some 0) else (some 1))) = some 1 := by
  subst hv
  rw [if_neg (nI_pos (by omega)), if_neg (fun g => by have := (nI_le_iff (by omega) (by omega)).mp g; omega)]
section ASK
variable {n : Nat} {T tx st en SA rk : Nat → Nat} {cp : Nat → Option Nat} {cl : Nat → Nat} {M : xM}
theorem hasc0 (hc : RBc M n T tx st en SA rk cp cl) {x : Int32} (h : ¬ xin x n) : fX7_has x M = some 0 := by rw [fX7_has_s]; exact has_0 hc.1.1 hc.2.2.1.1.1 h
theorem hasc1 (hc : RBc M n T tx st en SA rk cp cl) {p : Nat} (h : p < n) : fX7_has (nI p) M = some 1 := by rw [fX7_has_s]; exact has_1 hc.1.1 hc.2.2.1.1.1 h
theorem hasm0 (hn : n ≤ 408) (hm : RBm M n T tx st SA rk) {x : Int32} (h : ¬ xin x n) : fX9_isPlace x M = some 0 := by rw [fX9_isPlace_s]; exact has_0 hn hm.1.1 h
theorem hasm1 (hn : n ≤ 408) (hm : RBm M n T tx st SA rk) {p : Nat} (h : p < n) : fX9_isPlace (nI p) M = some 1 := by rw [fX9_isPlace_s]; exact has_1 hn hm.1.1 h
theorem z10 : ¬ (1 : Int32) = 0 := by decide
theorem shown_ok (hc : RBc M n T tx st en SA rk cp cl) {p : Nat} (hp : p < n) : fX7_shown (nI p) M = some (wM (T p)) := by
  have hn := hc.1.1
  have h5 := (hc.2.2.1.1.2.1 p hp).1
  have b := (hc.1.2.1 p hp).1
  have hE := isEnd_ok hc.1 hc.2.2.1.1 hp
  by_cases c : T p < 8
  · have e : (-2) - nI (T p) = wM (T p) := by unfold wM; rw [if_pos c]; rfl
    have z : ¬ bI true = 0 := by decide
    simp (disch := omega) only [fX7_shown_s, hE, Option.bind_some, c, decide_true, z, if_false, xin_nI, nI_clamp, if_pos, if_true, h5, e]
  · have e8 : (8 : Int32) = nI 8 := rfl
    have e : nI (T p) - nI 8 = wM (T p) := by unfold wM; rw [if_neg c, nI_sub (by omega)]
    have z : bI false = 0 := rfl
    simp (disch := omega) only [fX7_shown_s, hE, Option.bind_some, c, decide_false, z, if_true, xin_nI, nI_clamp, if_pos, h5, e8, e]
theorem sign_ok (hc : RBc M n T tx st en SA rk cp cl) (hm : RBm M n T tx st SA rk) (x : Int32) : ∃ r, fX8_sign x M = some r ∧ fX9_sign x M = some r := by
  have hn := hc.1.1
  by_cases h : xin x n
  · obtain ⟨p, hp, rfl⟩ := xin_ex h
    have h40 := (hm.1.2.1 p hp).1
    refine ⟨wM (T p), ?_, ?_⟩
    · simp only [fX8_sign_s, hasc1 hc hp, Option.bind_some, z10, if_false, shown_ok hc hp]
    · simp (disch := omega) only [fX9_sign_s, hasm1 hn hm hp, Option.bind_some, z10, if_false, xin_nI, nI_clamp, if_pos, if_true, h40]
  · exact ⟨-1, by simp only [fX8_sign_s, hasc0 hc h, Option.bind_some, if_true], by simp only [fX9_sign_s, hasm0 hn hm h, Option.bind_some, if_true]⟩
theorem text_ok (hc : RBc M n T tx st en SA rk cp cl) (hm : RBm M n T tx st SA rk) (x y : Int32) : ∃ r, fX8_text x y M = some r ∧ fX9_text x y M = some r := by
  have hn := hc.1.1
  by_cases h : xin x n
  · obtain ⟨p, hp, rfl⟩ := xin_ex h
    have h6 := (hc.2.2.1.1.2.1 p hp).2
    have h41 := (hm.1.2.1 p hp).2
    have ht := (hc.1.2.1 p hp).2.1
    have h7 := (hc.2.2.1.1.2.2 (tx p) ht).1
    have h42 := hm.1.2.2 (tx p) ht
    by_cases c1 : y < 0
    · exact ⟨-1, by simp only [fX8_text_s, hasc1 hc hp, Option.bind_some, z10, if_false, c1, if_true], by simp only [fX9_text_s, hasm1 hn hm hp, Option.bind_some, z10, if_false, c1, if_true]⟩
    · by_cases c2 : y ≤ 1
      · by_cases c3 : y = 0
        · subst c3
          have c1' : ¬ (0 : Int32) < 0 := by decide
          have c2' : (0 : Int32) ≤ 1 := by decide
          refine ⟨nI (tx p), ?_, ?_⟩
          · simp (disch := omega) only [fX8_text_s, hasc1 hc hp, Option.bind_some, z10, if_false, c1', c2', if_true, xin_nI, nI_clamp, if_pos, h6]
          · simp (disch := omega) only [fX9_text_s, hasm1 hn hm hp, Option.bind_some, z10, if_false, c1', c2', if_true, xin_nI, nI_clamp, if_pos, h41]
        · refine ⟨nI p - nI (st (tx p)), ?_, ?_⟩
          · simp (disch := omega) only [fX8_text_s, hasc1 hc hp, Option.bind_some, z10, if_false, c1, c2, if_true, xin_nI, nI_clamp, if_pos, c3, h6, h7]
          · simp (disch := omega) only [fX9_text_s, hasm1 hn hm hp, Option.bind_some, z10, if_false, c1, c2, if_true, xin_nI, nI_clamp, if_pos, c3, h41, h42]
      · exact ⟨-1, by simp only [fX8_text_s, hasc1 hc hp, Option.bind_some, z10, if_false, c1, c2], by simp only [fX9_text_s, hasm1 hn hm hp, Option.bind_some, z10, if_false, c1, c2]⟩
  · exact ⟨-1, by simp only [fX8_text_s, hasc0 hc h, Option.bind_some, if_true], by simp only [fX9_text_s, hasm0 hn hm h, Option.bind_some, if_true]⟩
theorem at_ok (hc : RBc M n T tx st en SA rk cp cl) (hm : RBm M n T tx st SA rk) (x : Int32) : ∃ r, fX8_at x M = some r ∧ fX9_at x M = some r := by
  have hn := hc.1.1
  by_cases h : xin x n
  · obtain ⟨p, hp, rfl⟩ := xin_ex h
    have h1 := hc.2.2.1.2.1 p hp
    have h2 := hm.2.2.1 p hp
    exact ⟨nI (SA p), by simp (disch := omega) only [fX8_at_s, hasc1 hc hp, Option.bind_some, z10, if_false, xin_nI, nI_clamp, if_pos, if_true, h1], by simp (disch := omega) only [fX9_at_s, hasm1 hn hm hp, Option.bind_some, z10, if_false, xin_nI, nI_clamp, if_pos, if_true, h2]⟩
  · exact ⟨-1, by simp only [fX8_at_s, hasc0 hc h, Option.bind_some, if_true], by simp only [fX9_at_s, hasm0 hn hm h, Option.bind_some, if_true]⟩
theorem rank_ok (hc : RBc M n T tx st en SA rk cp cl) (hm : RBm M n T tx st SA rk) (x : Int32) : ∃ r, fX8_rank x M = some r ∧ fX9_rank x M = some r := by
  have hn := hc.1.1
  by_cases h : xin x n
  · obtain ⟨p, hp, rfl⟩ := xin_ex h
    have h1 := hc.2.2.1.2.2.1 p hp
    have h2 := hm.2.2.2 p hp
    exact ⟨nI (rk p), by simp (disch := omega) only [fX8_rank_s, hasc1 hc hp, Option.bind_some, z10, if_false, xin_nI, nI_clamp, if_pos, if_true, h1], by simp (disch := omega) only [fX9_rank_s, hasm1 hn hm hp, Option.bind_some, z10, if_false, xin_nI, nI_clamp, if_pos, if_true, h2]⟩
  · exact ⟨-1, by simp only [fX8_rank_s, hasc0 hc h, Option.bind_some, if_true], by simp only [fX9_rank_s, hasm0 hn hm h, Option.bind_some, if_true]⟩
theorem nI_m1 {a : Nat} (h : 0 < a) : nI a - 1 = nI (a - 1) := by
  have := nI_sub1 (a - 1)
  rw [show a - 1 + 1 = a by omega] at this
  exact this
theorem beside0_ok (hc : RBc M n T tx st en SA rk cp cl) (hm : RBm M n T tx st SA rk) {i : Nat} (hi : i < n) : fX9_beside0 (nI i) M = some (nI (bes n T SA i)) := by
  have hn := hc.1.1
  by_cases h0 : i = 0
  · subst h0
    have z : nI 0 = 0 := rfl
    rw [fX9_beside0_s, if_pos z]
    rfl
  · have z : ¬ nI i = 0 := fun g => h0 ((nI_eq0 (by omega)).mp g)
    have h1 := hm.2.2.1 i hi
    have h2 := hm.2.2.1 (i - 1) (by omega)
    have hco := common0_ok hn hm.2.1 (hc.2.1.1 i hi).1 (hc.2.1.1 (i - 1) (by omega)).1
    rw [bes_eq (by omega)]
    simp (disch := omega) only [fX9_beside0_s, z, if_false, xin_nI, nI_clamp, nI_m1, if_pos, if_true, h1, h2, hco, Option.bind_some]
theorem beside_ok (hc : RBc M n T tx st en SA rk cp cl) (hm : RBm M n T tx st SA rk) (x : Int32) : ∃ r, fX8_beside x M = some r ∧ fX9_beside x M = some r := by
  have hn := hc.1.1
  by_cases h : xin x n
  · obtain ⟨p, hp, rfl⟩ := xin_ex h
    have h1 := hc.2.2.1.2.2.2 p hp
    exact ⟨nI (bes n T SA p), by simp (disch := omega) only [fX8_beside_s, hasc1 hc hp, Option.bind_some, z10, if_false, xin_nI, nI_clamp, if_pos, if_true, h1], by simp only [fX9_beside_s, hasm1 hn hm hp, Option.bind_some, z10, if_false, beside0_ok hc hm hp]⟩
  · exact ⟨-1, by simp only [fX8_beside_s, hasc0 hc h, Option.bind_some, if_true], by simp only [fX9_beside_s, hasm0 hn hm h, Option.bind_some, if_true]⟩
theorem signsFrom_ok (hc : RBc M n T tx st en SA rk cp cl) {p : Nat} (hp : p < n) : fX7_signsFrom (nI p) M = some (nI (lcx n T p p)) := by
  have hn := hc.1.1
  have a := hc.1.2.1 p hp
  have h6 := (hc.2.2.1.1.2.1 p hp).2
  have h8 := (hc.2.2.1.1.2.2 (tx p) a.2.1).2
  rw [hc.1.self hp]
  simp (disch := omega) only [fX7_signsFrom_s, xin_nI, nI_clamp, if_pos, if_true, h6, h8, nI_sub]
theorem toEnd_ok (hn : n ≤ 408) (hm : RBm M n T tx st SA rk) {p : Nat} (hp : p < n) : fX9_toEnd (nI p) M = some (nI (lcx n T p p)) := by
  rw [fX9_toEnd_s, common0_ok hn hm.2.1 hp hp]
  rfl
theorem common_ok (hc : RBc M n T tx st en SA rk cp cl) (hm : RBm M n T tx st SA rk) (x y : Int32) : ∃ r, fX8_common x y M = some r ∧ fX9_common x y M = some r := by
  have hn := hc.1.1
  by_cases h : xin x n
  · obtain ⟨p, hp, rfl⟩ := xin_ex h
    by_cases h2 : xin y n
    · obtain ⟨q, hq, rfl⟩ := xin_ex h2
      refine ⟨nI (lcx n T p q), ?_, by simp only [fX9_common_s, hasm1 hn hm hp, hasm1 hn hm hq, Option.bind_some, z10, if_false, common0_ok hn hm.2.1 hp hq]⟩
      by_cases e : p = q
      · subst e
        simp only [fX8_common_s, hasc1 hc hp, Option.bind_some, z10, if_false, if_true, signsFrom_ok hc hp]
      · have z : ¬ nI p = nI q := fun g => e ((nI_eq_iff (by omega) (by omega)).mp g)
        have al : fX7_alikeFrom (nI p) (nI q) 0 M = some (nI (lcx n T p q)) := alike_ok hc.1 hc.2.2.1.1 hp hq e (k := 0) (by omega)
        simp only [fX8_common_s, hasc1 hc hp, hasc1 hc hq, Option.bind_some, z10, if_false, z, al]
    · exact ⟨-1, by simp only [fX8_common_s, hasc1 hc hp, hasc0 hc h2, Option.bind_some, z10, if_false, if_true], by simp only [fX9_common_s, hasm1 hn hm hp, hasm0 hn hm h2, Option.bind_some, z10, if_false, if_true]⟩
  · exact ⟨-1, by simp only [fX8_common_s, hasc0 hc h, Option.bind_some, if_true], by simp only [fX9_common_s, hasm0 hn hm h, Option.bind_some, if_true]⟩
def prevx (n p : Nat) : Nat := if p = 0 then n - 1 else p - 1
theorem prev_lt {p : Nat} (h : p < n) : prevx n p < n := by unfold prevx; split <;> omega
theorem prev_gen {n p : Nat} (hn : n ≤ 408) (hp : p < n) {v : Int32} (hv : v = nI n) : (if nI p = 0 then (some (v - 1)) else (some (nI p - 1))) = some (nI (prevx n p)) := by
  subst hv
  unfold prevx
  by_cases h : p = 0
  · rw [if_pos ((nI_eq0 (by omega)).mpr h), if_pos h, nI_m1 (by omega)]
  · rw [if_neg (fun g => h ((nI_eq0 (by omega)).mp g)), if_neg h, nI_m1 (by omega)]
theorem prevc_ok (hc : RBc M n T tx st en SA rk cp cl) {p : Nat} (hp : p < n) : fX7_previous (nI p) M = some (nI (prevx n p)) := by rw [fX7_previous_s]; exact prev_gen hc.1.1 hp hc.2.2.1.1.1
theorem prevm_ok (hn : n ≤ 408) (hm : RBm M n T tx st SA rk) {p : Nat} (hp : p < n) : fX9_placeBefore (nI p) M = some (nI (prevx n p)) := by rw [fX9_placeBefore_s]; exact prev_gen hn hp hm.1.1
theorem before_ok (hc : RBc M n T tx st en SA rk cp cl) (hm : RBm M n T tx st SA rk) (x : Int32) : ∃ r, fX8_before x M = some r ∧ fX9_before x M = some r := by
  have hn := hc.1.1
  by_cases h : xin x n
  · obtain ⟨i, hi, rfl⟩ := xin_ex h
    have hs := (hc.2.1.1 i hi).1
    have h1 := hc.2.2.1.2.1 i hi
    have h2 := hm.2.2.1 i hi
    have hpl := prev_lt (n := n) hs
    have h40 := (hm.1.2.1 _ hpl).1
    refine ⟨wM (T (prevx n (SA i))), ?_, ?_⟩
    · simp (disch := omega) only [fX8_before_s, hasc1 hc hi, Option.bind_some, z10, if_false, xin_nI, nI_clamp, if_pos, if_true, h1, prevc_ok hc hs, shown_ok hc hpl]
    · simp (disch := omega) only [fX9_before_s, hasm1 hn hm hi, Option.bind_some, z10, if_false, xin_nI, nI_clamp, if_pos, if_true, h2, prevm_ok hn hm hs, h40]
  · exact ⟨-1, by simp only [fX8_before_s, hasc0 hc h, Option.bind_some, if_true], by simp only [fX9_before_s, hasm0 hn hm h, Option.bind_some, if_true]⟩
theorem back_ok (hc : RBc M n T tx st en SA rk cp cl) (hm : RBm M n T tx st SA rk) (x : Int32) : ∃ r, fX8_back x M = some r ∧ fX9_back x M = some r := by
  have hn := hc.1.1
  by_cases h : xin x n
  · obtain ⟨i, hi, rfl⟩ := xin_ex h
    have hs := (hc.2.1.1 i hi).1
    have h1 := hc.2.2.1.2.1 i hi
    have h2 := hm.2.2.1 i hi
    have hpl := prev_lt (n := n) hs
    have h45 := hm.2.2.2 _ hpl
    have h11 := hc.2.2.1.2.2.1 _ hpl
    refine ⟨nI (rk (prevx n (SA i))), ?_, ?_⟩
    · simp (disch := omega) only [fX8_back_s, hasc1 hc hi, Option.bind_some, z10, if_false, xin_nI, nI_clamp, if_pos, if_true, h1, prevc_ok hc hs, h11]
    · simp (disch := omega) only [fX9_back_s, hasm1 hn hm hi, Option.bind_some, z10, if_false, xin_nI, nI_clamp, if_pos, if_true, h2, prevm_ok hn hm hs, h45]
  · exact ⟨-1, by simp only [fX8_back_s, hasc0 hc h, Option.bind_some, if_true], by simp only [fX9_back_s, hasm0 hn hm h, Option.bind_some, if_true]⟩
theorem nI_div {a b : Nat} (ha : a < 2147483648) (hb : b < 2147483648) (h0 : 0 < b) : nI a / nI b = nI (a / b) := by
  apply Int32.toInt_inj.mp
  have hq : a / b ≤ a := Nat.div_le_self a b
  rw [Int32.toInt_div, nI_toInt ha, nI_toInt hb, nI_toInt (by omega)]
  rw [Int.tdiv_eq_ediv_of_nonneg (by omega)]
  have e : ((a : Int) / (b : Int)) = ((a / b : Nat) : Int) := by omega
  rw [e]
  generalize a / b = q at *
  apply Int.bmod_eq_of_le <;> omega
theorem nI_rem {a b : Nat} (ha : a < 2147483648) (hb : b < 2147483648) (h0 : 0 < b) : nI a - nI a / nI b * nI b = nI (a % b) := by
  rw [nI_div ha hb h0, nI_mul, nI_sub (Nat.div_mul_le_self a b)]
  congr 1
  have := Nat.mod_add_div a b
  rw [Nat.mul_comm] at this
  omega
theorem steps_loop (hn : n ≤ 408) (hm : RBm M n T tx st SA rk) {e : Nat} (he : 0 < e) (he2 : e ≤ 64) : ∀ (d p k fuel : Nat), p ≤ d → p < n → p % e < fuel → fX9_steps_31 fuel (nI e) (nI p) (nI k) M = some (nI (k + p % e)) := by
  intro d
  induction d with
  | zero =>
    intro p k fuel hd hp hf
    obtain ⟨f, rfl⟩ : ∃ f, fuel = f + 1 := ⟨fuel - 1, by omega⟩
    have hp0 : p = 0 := by omega
    subst hp0
    have z : ¬ nI e = 0 := fun g => by have := (nI_eq0 (by omega)).mp g; omega
    have z2 : nI 0 - nI 0 / nI e * nI e = nI (0 % e) := nI_rem (by omega) (by omega) he
    have z3 : nI (0 % e) = 0 := by rw [Nat.zero_mod]; rfl
    rw [fX9_steps_31_s, if_pos z, z2, if_pos z3, Nat.zero_mod]
    rfl
  | succ d ih =>
    intro p k fuel hd hp hf
    obtain ⟨f, rfl⟩ : ∃ f, fuel = f + 1 := ⟨fuel - 1, by omega⟩
    have z : ¬ nI e = 0 := fun g => by have := (nI_eq0 (by omega)).mp g; omega
    have z2 := nI_rem (a := p) (b := e) (by omega) (by omega) he
    have hml := Nat.mod_lt p he
    rw [fX9_steps_31_s, if_pos z, z2]
    by_cases h0 : p % e = 0
    · rw [if_pos (by rw [h0]; rfl), h0]
      rfl
    · rw [if_neg (fun g => h0 ((nI_eq0 (by omega)).mp g)), prevm_ok hn hm hp, Option.bind_some, nI_add1]
      have hp0 : p ≠ 0 := by intro h; subst h; rw [Nat.zero_mod] at h0; exact h0 rfl
      have hpv : prevx n p = p - 1 := by unfold prevx; rw [if_neg hp0]
      have hm1 : (p - 1) % e = p % e - 1 := by
        have h3 := Nat.mod_add_div p e
        have h4 : p - 1 = (p % e - 1) + e * (p / e) := by omega
        rw [h4, Nat.add_mul_mod_self_left, Nat.mod_eq_of_lt (by omega)]
      rw [hpv, ih (p - 1) (k + 1) f (by omega) (by omega) (by rw [hm1]; omega), hm1]
      congr 2
      omega
theorem steps_ok (hc : RBc M n T tx st en SA rk cp cl) (hm : RBm M n T tx st SA rk) (x y : Int32) : ∃ r, fX8_steps x y M = some r ∧ fX9_steps x y M = some r := by
  have hn := hc.1.1
  by_cases h : xin x n
  · obtain ⟨i, hi, rfl⟩ := xin_ex h
    by_cases c1 : y < 1
    · exact ⟨-1, by simp only [fX8_steps_s, hasc1 hc hi, Option.bind_some, z10, if_false, c1, if_true], by simp only [fX9_steps_s, hasm1 hn hm hi, Option.bind_some, z10, if_false, c1, if_true]⟩
    · by_cases c2 : y ≤ 64
      · have hy0 : ¬ y < 0 := fun g => c1 (by
          rw [Int32.lt_iff_toInt_lt] at g ⊢
          have e0 : (0 : Int32).toInt = 0 := rfl
          have e1 : (1 : Int32).toInt = 1 := rfl
          omega)
        obtain ⟨e, he, rfl⟩ := nn_ex hy0
        have he1 : 0 < e := by
          rcases Nat.eq_zero_or_pos e with g | g
          · subst g; exact absurd (by decide) c1
          · exact g
        have he2 : e ≤ 64 := by
          have e64 : (64 : Int32) = nI 64 := rfl
          rw [e64] at c2
          exact (nI_le_iff he (by omega)).mp c2
        have hs := (hc.2.1.1 i hi).1
        have h1 := hc.2.2.1.2.1 i hi
        have h2 := hm.2.2.1 i hi
        have z : ¬ nI e = 0 := fun g => by have := (nI_eq0 (by omega)).mp g; omega
        have hr := nI_rem (a := SA i) (b := e) (by omega) (by omega) he1
        have hml := Nat.mod_lt (SA i) he1
        have hl := steps_loop hn hm he1 he2 (SA i) (SA i) 0 4096 (Nat.le_refl _) hs (by omega)
        rw [Nat.zero_add] at hl
        have hl' : fX9_steps_31 4096 (nI e) (nI (SA i)) 0 M = some (nI (SA i % e)) := hl
        refine ⟨nI (SA i % e), ?_, ?_⟩
        · simp (disch := omega) only [fX8_steps_s, hasc1 hc hi, Option.bind_some, z10, if_false, c1, c2, if_true, xin_nI, nI_clamp, if_pos, z, not_false_eq_true, h1, hr]
        · simp (disch := omega) only [fX9_steps_s, hasm1 hn hm hi, Option.bind_some, z10, if_false, c1, c2, if_true, xin_nI, nI_clamp, if_pos, h2, hl']
      · exact ⟨-1, by simp only [fX8_steps_s, hasc1 hc hi, Option.bind_some, z10, if_false, c1, c2], by simp only [fX9_steps_s, hasm1 hn hm hi, Option.bind_some, z10, if_false, c1, c2]⟩
  · exact ⟨-1, by simp only [fX8_steps_s, hasc0 hc h, Option.bind_some, if_true], by simp only [fX9_steps_s, hasm0 hn hm h, Option.bind_some, if_true]⟩
theorem diff_loop (hc : RBc M n T tx st en SA rk cp cl) (hm : RBm M n T tx st SA rk) : ∀ (d i fuel : Nat) (a : Int64), i + d = n → d < fuel → ∃ r, fX5_countAll_4 fuel a (nI i) M = some r ∧ fX9_different_4 fuel a (nI i) M = some r := by
  have hn := hc.1.1
  have h4 := hc.2.2.1.1.1
  have h37 := hm.1.1
  intro d
  induction d with
  | zero =>
    intro i fuel a hi hf
    obtain ⟨f, rfl⟩ : ∃ f, fuel = f + 1 := ⟨fuel - 1, by omega⟩
    exact ⟨a, by simp (disch := omega) only [fX5_countAll_4_s, h4, nI_le_iff, if_pos, if_true], by simp (disch := omega) only [fX9_different_4_s, h37, nI_le_iff, if_pos, if_true]⟩
  | succ d ih =>
    intro i fuel a hi hf
    obtain ⟨f, rfl⟩ : ∃ f, fuel = f + 1 := ⟨fuel - 1, by omega⟩
    have hin : i < n := by omega
    have hs := (hc.2.1.1 i hin).1
    have h10 := hc.2.2.1.2.1 i hin
    have h12 := hc.2.2.1.2.2.2 i hin
    have h44 := hm.2.2.1 i hin
    obtain ⟨r, e1, e2⟩ := ih (i + 1) f (a + (nI (lcx n T (SA i) (SA i)) - nI (bes n T SA i)).toInt64) (by omega) (by omega)
    refine ⟨r, ?_, ?_⟩
    · simp (disch := omega) only [fX5_countAll_4_s, h4, nI_le_iff, if_neg, if_false, xin_nI, nI_clamp, if_pos, if_true, h10, signsFrom_ok hc hs, Option.bind_some, h12, nI_add1, e1]
    · simp (disch := omega) only [fX9_different_4_s, h37, nI_le_iff, if_neg, if_false, xin_nI, nI_clamp, if_pos, if_true, h44, toEnd_ok hn hm hs, Option.bind_some, beside0_ok hc hm hin, nI_add1, e2]
theorem different_ok (hc : RBc M n T tx st en SA rk cp cl) (hm : RBm M n T tx st SA rk) : ∃ r, fX8_different M = some r ∧ fX9_different M = some r := by
  have hn := hc.1.1
  obtain ⟨r, e1, e2⟩ := diff_loop hc hm n 0 4096 0 (by omega) (by omega)
  exact ⟨r, by rw [fX8_different_s, fX5_countAll_s]; show (fX5_countAll_4 4096 0 (nI 0) M).bind _ = _; rw [e1]; rfl, by rw [fX9_different_s]; exact e2⟩
end ASK
