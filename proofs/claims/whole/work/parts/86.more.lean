/-! COPY, PATTERN, WIPE, SWAP, TELL, JUDGE -/
theorem le_ex {x : Int32} {k : Nat} (hk : k < 2147483648) (h : ¬ x < 0) (h2 : x ≤ nI k) : ∃ c, c ≤ k ∧ x = nI c := by
  obtain ⟨c, hc, rfl⟩ := nn_ex h
  exact ⟨c, (nI_le_iff hc hk).mp h2, rfl⟩
theorem enc_neg {o : Option Nat} (h : ∀ q, o = some q → q < 2147483648) : enc o < 0 ↔ o = none := by
  cases o with
  | none => exact ⟨fun _ => rfl, fun _ => (by decide : (-1 : Int32) < 0)⟩
  | some q => exact ⟨fun g => absurd g (nI_pos (h q rfl)), fun g => by cases g⟩
section CPY
variable {n : Nat} {T tx st en SA rk : Nat → Nat} {cp : Nat → Option Nat} {cl : Nat → Nat} {M : xM}
/-- the best of the first q places -/
def bst (n : Nat) (T : Nat → Nat) (p q : Nat) (b : Option Nat) : Prop := (b = none ∧ ∀ q', q' < q → lcx n T p q' = 0) ∨ ∃ c, b = some c ∧ c < q ∧ 0 < lcx n T p c ∧ (∀ q', q' < q → lcx n T p q' ≤ lcx n T p c) ∧ ∀ q', q' < c → lcx n T p q' < lcx n T p c
theorem bst_keep {p q : Nat} {b : Option Nat} (h : bst n T p q b) (hz : match b with | none => lcx n T p q = 0 | some c => lcx n T p q ≤ lcx n T p c) : bst n T p (q + 1) b := by
  rcases h with ⟨rfl, h⟩ | ⟨c, rfl, h1, h2, h3, h4⟩
  · refine Or.inl ⟨rfl, fun q' hq => ?_⟩
    rcases Nat.lt_or_ge q' q with g | g
    · exact h q' g
    · rw [show q' = q by omega]; exact hz
  · refine Or.inr ⟨c, rfl, by omega, h2, fun q' hq => ?_, h4⟩
    rcases Nat.lt_or_ge q' q with g | g
    · exact h3 q' g
    · rw [show q' = q by omega]; exact hz
theorem bst_new {p q : Nat} {b : Option Nat} (h : bst n T p q b) (h0 : 0 < lcx n T p q) (hz : match b with | none => True | some c => lcx n T p c < lcx n T p q) : bst n T p (q + 1) (some q) := by
  rcases h with ⟨rfl, h⟩ | ⟨c, rfl, h1, h2, h3, h4⟩
  · refine Or.inr ⟨q, rfl, by omega, h0, fun q' hq => ?_, fun q' hq => ?_⟩
    · rcases Nat.lt_or_ge q' q with g | g
      · rw [h q' g]; omega
      · rw [show q' = q by omega]; exact Nat.le_refl _
    · rw [h q' hq]; exact h0
  · have hz' : lcx n T p c < lcx n T p q := hz
    refine Or.inr ⟨q, rfl, by omega, h0, fun q' hq => ?_, fun q' hq => ?_⟩
    · rcases Nat.lt_or_ge q' q with g | g
      · have := h3 q' g; omega
      · rw [show q' = q by omega]; exact Nat.le_refl _
    · have := h3 q' hq; omega
theorem copyOf_loop (hw : WFx n T tx st en) (hm : RBm M n T tx st SA rk) {p : Nat} (hp : p < n) : ∀ (d q fuel : Nat) (b : Option Nat), q + d = p → d < fuel → bst n T p q b → ∃ b2, fX9_copyOf_4 fuel (nI p) (enc b) (nI q) M = some (enc b2) ∧ bst n T p p b2 := by
  have hn := hw.1
  intro d
  induction d with
  | zero =>
    intro q fuel b hq hf hb
    obtain ⟨f, rfl⟩ : ∃ f, fuel = f + 1 := ⟨fuel - 1, by omega⟩
    refine ⟨b, ?_, by rw [← (show q = p by omega)]; rw [show p = q by omega] at hb; exact hb⟩
    simp (disch := omega) only [fX9_copyOf_4_s, nI_le_iff, if_pos]
  | succ d ih =>
    intro q fuel b hq hf hb
    obtain ⟨f, rfl⟩ : ∃ f, fuel = f + 1 := ⟨fuel - 1, by omega⟩
    have hc := common0_ok hn hm.2.1 hp (show q < n by omega)
    have hbq := (hw.lcn hp q).2
    by_cases h0 : lcx n T p q = 0
    · obtain ⟨b2, e1, e2⟩ := ih (q + 1) f b (by omega) (by omega) (bst_keep hb (by cases b with | none => exact h0 | some c => show _ ≤ _; omega))
      refine ⟨b2, ?_, e2⟩
      simp (disch := omega) only [fX9_copyOf_4_s, nI_le_iff, if_neg, hc, Option.bind_some, nI_le0, h0, if_true, fX9_copyOf_41_s, fX9_copyOf_42_s, nI_add1, e1]
    · cases b with
      | none =>
        obtain ⟨b2, e1, e2⟩ := ih (q + 1) f (some q) (by omega) (by omega) (bst_new hb (by omega) trivial)
        refine ⟨b2, ?_, e2⟩
        have z : (-1 : Int32) < 0 := by decide
        have e1' : fX9_copyOf_4 f (nI p) (nI q) (nI (q + 1)) M = some (enc b2) := e1
        show fX9_copyOf_4 (f + 1) (nI p) (-1) (nI q) M = _
        simp (disch := omega) only [fX9_copyOf_4_s, nI_le_iff, if_neg, hc, Option.bind_some, nI_le0, h0, if_false, z, if_true, fX9_copyOf_37_s, fX9_copyOf_42_s, nI_add1, e1']
      | some c =>
        have hcq : c < q := by
          rcases hb with ⟨g, -⟩ | ⟨c', g, g2, -⟩
          · cases g
          · cases g; exact g2
        have hc2 := common0_ok hn hm.2.1 hp (show c < n by omega)
        have hbc := (hw.lcn hp c).2
        have z : ¬ nI c < 0 := nI_pos (by omega)
        by_cases h1 : lcx n T p q ≤ lcx n T p c
        · obtain ⟨b2, e1, e2⟩ := ih (q + 1) f (some c) (by omega) (by omega) (bst_keep hb h1)
          refine ⟨b2, ?_, e2⟩
          have e1' : fX9_copyOf_4 f (nI p) (nI c) (nI (q + 1)) M = some (enc b2) := e1
          show fX9_copyOf_4 (f + 1) (nI p) (nI c) (nI q) M = _
          simp (disch := omega) only [fX9_copyOf_4_s, nI_le_iff, if_neg, hc, Option.bind_some, nI_le0, h0, if_false, z, hc2, h1, if_true, fX9_copyOf_41_s, fX9_copyOf_42_s, nI_add1, e1']
        · obtain ⟨b2, e1, e2⟩ := ih (q + 1) f (some q) (by omega) (by omega) (bst_new hb (by omega) (show _ < _ by omega))
          refine ⟨b2, ?_, e2⟩
          have e1' : fX9_copyOf_4 f (nI p) (nI q) (nI (q + 1)) M = some (enc b2) := e1
          show fX9_copyOf_4 (f + 1) (nI p) (nI c) (nI q) M = _
          simp (disch := omega) only [fX9_copyOf_4_s, nI_le_iff, if_neg, hc, Option.bind_some, nI_le0, h0, if_false, z, hc2, h1, fX9_copyOf_37_s, fX9_copyOf_42_s, nI_add1, e1']
theorem copyOf_ok (hc : RBc M n T tx st en SA rk cp cl) (hm : RBm M n T tx st SA rk) {p : Nat} (hp : p < n) : fX9_copyOf (nI p) M = some (enc (cp p)) ∧ ((cp p = none ∧ cl p = 0) ∨ ∃ q, cp p = some q ∧ q < p ∧ 0 < cl p ∧ lcx n T p q = cl p) := by
  have hn := hc.1.1
  obtain ⟨b, e1, e2⟩ := copyOf_loop hc.1 hm hp p 0 4096 none (by omega) (by omega) (Or.inl ⟨rfl, fun q hq => by omega⟩)
  have hcp := (hc.2.2.2 p hp).1
  have hb : isCp n T p b (match b with | none => 0 | some c => lcx n T p c) := by
    rcases e2 with ⟨rfl, h⟩ | ⟨c, rfl, h1, h2, h3, h4⟩
    · exact ⟨⟨fun q hq => by rw [h q hq]; exact Nat.le_refl 0, Or.inl rfl⟩, Or.inl ⟨rfl, rfl⟩⟩
    · exact ⟨⟨h3, Or.inr ⟨c, h1, rfl⟩⟩, Or.inr ⟨c, rfl, h1, rfl, h2, h4⟩⟩
  obtain ⟨a1, a2⟩ := hb.one hcp
  refine ⟨by rw [fX9_copyOf_s, ← a1]; exact e1, ?_⟩
  rcases hcp.2 with ⟨g1, g2⟩ | ⟨q, g1, g2, g3, g4, -⟩
  · exact Or.inl ⟨g2, g1⟩
  · exact Or.inr ⟨q, g1, g2, g4, g3⟩
theorem cl_en (hc : RBc M n T tx st en SA rk cp cl) : ∀ p, p < n → p + cl p ≤ en (tx p) := fun p hp => isLen_en hc.1 hp (hc.2.2.2 p hp).1.1
theorem pcs_loop (hc : RBc M n T tx st en SA rk cp cl) (hm : RBm M n T tx st SA rk) : ∀ (d p k fuel : Nat), p < n → en (tx p) - p ≤ d → d < fuel → fX9_copy_59 fuel (nI k) (nI p) M = some (nI (k + pcx n T cl p)) := by
  have hn := hc.1.1
  have hcl := cl_en hc
  intro d
  induction d with
  | zero =>
    intro p k fuel hp hd hf
    obtain ⟨f, rfl⟩ : ∃ f, fuel = f + 1 := ⟨fuel - 1, by omega⟩
    have a := hc.1.2.1 p hp
    have h40 := (hm.1.2.1 p hp).1
    have he : T p < 8 := by
      have : en (tx p) = p := by omega
      rw [this] at a
      omega
    have hng : wM (T p) < 0 := (wM_neg a.1).mpr he
    rw [pcx_rec hc.1 hcl hp, if_pos he]
    simp (disch := omega) only [fX9_copy_59_s, xin_nI, nI_clamp, if_pos, if_true, h40, hng, Nat.add_zero]
  | succ d ih =>
    intro p k fuel hp hd hf
    obtain ⟨f, rfl⟩ : ∃ f, fuel = f + 1 := ⟨fuel - 1, by omega⟩
    have a := hc.1.2.1 p hp
    have h40 := (hm.1.2.1 p hp).1
    rw [pcx_rec hc.1 hcl hp]
    by_cases he : T p < 8
    · have hng : wM (T p) < 0 := (wM_neg a.1).mpr he
      rw [if_pos he]
      simp (disch := omega) only [fX9_copy_59_s, xin_nI, nI_clamp, if_pos, if_true, h40, hng, Nat.add_zero]
    · have hng : ¬ wM (T p) < 0 := fun g => he ((wM_neg a.1).mp g)
      rw [if_neg he]
      have hpe : p ≠ en (tx p) := fun g => by rw [← g] at a; omega
      obtain ⟨c1, c2⟩ := copyOf_ok hc hm hp
      have hle := hcl p hp
      have hnx : ∀ s, 1 ≤ s → p + s ≤ en (tx p) → fX9_copy_59 f (nI (k + 1)) (nI (p + s)) M = some (nI (k + 1 + pcx n T cl (p + s))) := by
        intro s hs1 hs2
        have ht : tx (p + s) = tx p := by
          rcases Nat.lt_or_ge (p + s) (en (tx p)) with g | g
          · exact (hc.1.2.2.2 p (p + s) hp (by omega) g).2
          · rw [show p + s = en (tx p) by omega]; exact a.2.2.2.2.2.2
        exact ih (p + s) (k + 1) f (by omega) (by rw [ht]; omega) (by omega)
      rcases c2 with ⟨g1, g2⟩ | ⟨q, g1, g2, g3, g4⟩
      · have z : ¬ (0 : Int32) ≤ -1 := by decide
        have c1' : fX9_copyOf (nI p) M = some (-1) := by rw [c1, g1]; rfl
        have hx := hnx 1 (by omega) (by omega)
        rw [g2, if_neg (by omega)]
        simp (disch := omega) only [fX9_copy_59_s, xin_nI, nI_clamp, if_pos, if_true, h40, hng, if_false, c1', Option.bind_some, z, fX9_copy_96_s, nI_add1, hx]
        congr 2
        omega
      · have z : (0 : Int32) ≤ nI q := by
          have := (nI_le_iff (a := 0) (b := q) (by omega) (by omega)).mpr (by omega)
          exact this
        have c1' : fX9_copyOf (nI p) M = some (nI q) := by rw [c1, g1]; rfl
        have hco := common0_ok hn hm.2.1 hp (show q < n by omega)
        rw [g4] at hco
        have hx := hnx (cl p) (by omega) (by omega)
        have hs : (if 1 < cl p then cl p else 1) = cl p := by split <;> omega
        rw [hs]
        simp (disch := omega) only [fX9_copy_59_s, xin_nI, nI_clamp, if_pos, if_true, h40, hng, if_false, c1', Option.bind_some, z, hco, fX9_copy_96_s, nI_add1, nI_plus, hx]
        congr 2
        omega
theorem copy_ok (hc : RBc M n T tx st en SA rk cp cl) (hm : RBm M n T tx st SA rk) (x y : Int32) : ∃ r, fX8_copy x y M = some r ∧ fX9_copy x y M = some r := by
  have hn := hc.1.1
  by_cases h : xin x n
  · obtain ⟨p, hp, rfl⟩ := xin_ex h
    obtain ⟨-, b26, b27, b28⟩ := hc.2.2.2 p hp
    obtain ⟨c1, c2⟩ := copyOf_ok hc hm hp
    have h01 : ¬ (1 : Int32) = 0 := by decide
    by_cases c3 : y < 0
    · have y0 : ¬ y = 0 := fun g => by subst g; exact absurd c3 (by decide)
      have y1 : ¬ y = 1 := fun g => by subst g; exact absurd c3 (by decide)
      have y2 : ¬ y = 2 := fun g => by subst g; exact absurd c3 (by decide)
      exact ⟨-1, by simp only [fX8_copy_s, hasc1 hc hp, Option.bind_some, z10, if_false, y0, y1, y2], by simp only [fX9_copy_s, hasm1 hn hm hp, Option.bind_some, z10, if_false, c3, if_true]⟩
    · by_cases c4 : y ≤ 2
      · obtain ⟨c, hc2, rfl⟩ := le_ex (k := 2) (by omega) c3 c4
        have hcs : c = 0 ∨ c = 1 ∨ c = 2 := by omega
        rcases hcs with rfl | rfl | rfl
        · have q1 : ¬ nI 0 < 0 := by decide
          have q2 : nI 0 ≤ 2 := by decide
          have q3 : ¬ 2 ≤ nI 0 := by decide
          have q4 : nI 0 = 0 := rfl
          refine ⟨enc (cp p), ?_, ?_⟩
          · simp (disch := omega) only [fX8_copy_s, hasc1 hc hp, Option.bind_some, z10, if_false, q4, if_true, xin_nI, nI_clamp, if_pos, b26]
          · rw [fX9_copy_s, hasm1 hn hm hp, Option.bind_some, if_neg z10, if_neg q1, if_pos q2, c1, Option.bind_some, if_neg q3, if_pos q4]
        · have q1 : ¬ nI 1 < 0 := by decide
          have q2 : nI 1 ≤ 2 := by decide
          have q3 : ¬ 2 ≤ nI 1 := by decide
          have q4 : ¬ nI 1 = 0 := by decide
          have q5 : nI 1 = 1 := rfl
          refine ⟨nI (cl p), ?_, ?_⟩
          · simp (disch := omega) only [fX8_copy_s, hasc1 hc hp, Option.bind_some, z10, if_false, q4, q5, if_true, xin_nI, nI_clamp, if_pos, b27]
          · rw [fX9_copy_s, hasm1 hn hm hp, Option.bind_some, if_neg z10, if_neg q1, if_pos q2, c1, Option.bind_some, if_neg q3, if_neg q4]
            rcases c2 with ⟨g1, g2⟩ | ⟨q, g1, g2, g3, g4⟩
            · rw [g1, g2]
              rfl
            · have hco := common0_ok hn hm.2.1 hp (show q < n by omega)
              rw [g4] at hco
              have z : (0 : Int32) ≤ nI q := (nI_le_iff (a := 0) (b := q) (by omega) (by omega)).mpr (by omega)
              rw [g1]
              show (if (0 : Int32) ≤ nI q then (fX9_common0 (nI p) (nI q) M).bind _ else _) = _
              rw [if_pos z, hco]
              rfl
        · have q1 : ¬ nI 2 < 0 := by decide
          have q2 : nI 2 ≤ 2 := by decide
          have q3 : 2 ≤ nI 2 := by decide
          have q4 : ¬ nI 2 = 0 := by decide
          have q5 : ¬ nI 2 = 1 := by decide
          have q6 : nI 2 = 2 := rfl
          have a := hc.1.2.1 p hp
          have hl := pcs_loop hc hm (en (tx p) - p) p 0 4096 hp (Nat.le_refl _) (by omega)
          rw [Nat.zero_add] at hl
          refine ⟨nI (pcx n T cl p), ?_, ?_⟩
          · rw [fX8_copy_s, hasc1 hc hp, Option.bind_some, if_neg z10, if_neg q4, if_neg q5, if_pos q6, if_pos (xin_of (by omega) (by omega)), nI_clamp (by omega), b28]
          · rw [fX9_copy_s, hasm1 hn hm hp, Option.bind_some, if_neg z10, if_neg q1, if_pos q2, c1, Option.bind_some, if_pos q3]
            exact hl
      · have y0 : ¬ y = 0 := fun g => by subst g; exact absurd (by decide) c4
        have y1 : ¬ y = 1 := fun g => by subst g; exact absurd (by decide) c4
        have y2 : ¬ y = 2 := fun g => by subst g; exact absurd (by decide) c4
        exact ⟨-1, by simp only [fX8_copy_s, hasc1 hc hp, Option.bind_some, z10, if_false, y0, y1, y2], by simp only [fX9_copy_s, hasm1 hn hm hp, Option.bind_some, z10, if_false, c3, c4]⟩
  · exact ⟨-1, by simp only [fX8_copy_s, hasc0 hc h, Option.bind_some, if_true], by simp only [fX9_copy_s, hasm0 hn hm h, Option.bind_some, if_true]⟩
end CPY
