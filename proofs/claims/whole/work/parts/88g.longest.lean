/-! LONGEST and SHARED -/
section LNG
variable {n : Nat} {T tx st en SA rk : Nat → Nat} {cp : Nat → Option Nat} {cl : Nat → Nat} {M : xM} {m : Nat}
theorem isBst.step {Ok : Nat → Nat → Prop} {k l i v : Nat} (h : isBst n Ok k l i) (hv : v ≤ n) (hO : ∀ l', 1 ≤ l' → (l' ≤ v ↔ Ok l' k)) : isBst n Ok (k + 1) (if v ≤ l then l else v) (if v ≤ l then i else k) := by
  obtain ⟨h1, h2, h3⟩ := h
  by_cases g : v ≤ l
  · rw [if_pos g, if_pos g]
    refine ⟨h1, ?_, fun j hj l' hl => ?_⟩
    · rcases h2 with q | ⟨q1, q2⟩
      · exact Or.inl q
      · exact Or.inr ⟨by omega, q2⟩
    · rcases Nat.lt_or_ge j k with q | q
      · exact h3 j q l' hl
      · rw [show j = k by omega]
        intro ho
        have := (hO l' (by omega)).mpr ho
        omega
  · rw [if_neg g, if_neg g]
    refine ⟨hv, Or.inr ⟨by omega, (hO v (by omega)).mp (Nat.le_refl v), fun j hj => h3 j hj v (by omega)⟩, fun j hj l' hl => ?_⟩
    rcases Nat.lt_or_ge j k with q | q
    · exact h3 j q l' (by omega)
    · rw [show j = k by omega]
      intro ho
      have := (hO l' (by omega)).mpr ho
      omega
theorem isBst.fin {Ok : Nat → Nat → Prop} {k l i : Nat} (h : isBst n Ok k l i) (hk : k ≤ n) (hO : ∀ j l', k ≤ j → ¬ Ok l' j) : isBst n Ok n l i := by
  obtain ⟨h1, h2, h3⟩ := h
  refine ⟨h1, ?_, fun j hj l' hl => ?_⟩
  · rcases h2 with q | ⟨q1, q2⟩
    · exact Or.inl q
    · exact Or.inr ⟨by omega, q2⟩
  · rcases Nat.lt_or_ge j k with q | q
    · exact h3 j q l' hl
    · exact hO j l' q
theorem bes_400 (hw : WFx n T tx st en) (hP : PM n T SA rk) (hs : SGx n tx en) {i : Nat} (hi : i < n) : bes n T SA i ≤ 400 ∧ bes n T SA i < n := by
  unfold bes
  split
  · omega
  · have h1 := (hP.1 i hi).1
    have h2 := @lc_le_self n T (SA i) (SA (i - 1))
    have h3 := hw.self h1
    have h4 := hs _ h1
    have h5 := (hw.lcn h1 (SA (i - 1))).1
    omega
def vmn (n : Nat) (T SA : Nat → Nat) (i k v : Nat) : Prop := v ≤ 400 ∧ ∀ l', l' ≤ v ↔ l' ≤ 400 ∧ ∀ j, i < j → j < k → l' ≤ bes n T SA j
theorem win_loop (hc : RBc M n T tx st en SA rk cp cl) (hm : RBm M n T tx st SA rk) (hm4 : m ≤ 408) {i : Nat} (him : i + m ≤ n) (k31 : Int32 → Int32 → Int32 → Int32 → Int32 → xM → Option (Int32)) (x2 x3 x4 : Int32) : ∀ (d k v fuel : Nat), k + d = i + m → d < fuel → i < k → vmn n T SA i k v →
    ∃ v2, fX9_longest_53 k31 fuel (nI m) x2 x3 x4 (nI i) (nI v) (nI k) M = fX9_longest_92 k31 (nI m) x2 x3 x4 (nI i) (nI v2) M ∧ vmn n T SA i (i + m) v2 := by
  have hn := hc.1.1
  intro d
  induction d with
  | zero =>
    intro k v fuel hk hf hik hv
    obtain ⟨f, rfl⟩ : ∃ f, fuel = f + 1 := ⟨fuel - 1, by omega⟩
    refine ⟨v, ?_, by rw [show i + m = k by omega]; exact hv⟩
    simp (disch := omega) only [fX9_longest_53_s, nI_plus, nI_le_iff, if_pos]
  | succ d ih =>
    intro k v fuel hk hf hik hv
    obtain ⟨f, rfl⟩ : ∃ f, fuel = f + 1 := ⟨fuel - 1, by omega⟩
    have hkn : k < n := by omega
    have hb0 := beside0_ok hc hm hkn
    have hbb := bes_b hc.1 hc.2.1 hkn
    have hv4 := hv.1
    obtain ⟨v1, ev1⟩ : ∃ v1, v1 = if v ≤ bes n T SA k then v else bes n T SA k := ⟨_, rfl⟩
    have hv1 : vmn n T SA i (k + 1) v1 := by
      refine ⟨by rw [ev1]; split <;> omega, fun l' => ?_⟩
      have key : l' ≤ v1 ↔ l' ≤ v ∧ l' ≤ bes n T SA k := by rw [ev1]; split <;> omega
      rw [key, hv.2 l']
      constructor
      · rintro ⟨⟨a, b⟩, c⟩
        refine ⟨a, fun j h1 h2 => ?_⟩
        rcases Nat.lt_or_ge j k with q | q
        · exact b j h1 q
        · rw [show j = k by omega]; exact c
      · rintro ⟨a, b⟩
        exact ⟨⟨a, fun j h1 h2 => b j h1 (by omega)⟩, b k hik (by omega)⟩
    obtain ⟨v2, e1, e2⟩ := ih (k + 1) v1 f (by omega) (by omega) (by omega) hv1
    refine ⟨v2, ?_, e2⟩
    rw [← e1]
    by_cases g : v ≤ bes n T SA k
    · rw [if_pos g] at ev1
      subst ev1
      simp (disch := omega) only [fX9_longest_53_s, nI_plus, nI_le_iff, if_neg, hb0, Option.bind_some, if_pos, fX9_longest_84_s, nI_add1]
    · rw [if_neg g] at ev1
      subst ev1
      simp (disch := omega) only [fX9_longest_53_s, nI_plus, nI_le_iff, if_neg, hb0, Option.bind_some, fX9_longest_84_s, nI_add1]
def OkL (n : Nat) (T SA : Nat → Nat) (m l i : Nat) : Prop := i + m ≤ n ∧ ∀ k, i < k → k < i + m → l ≤ bes n T SA k
theorem long_loop (hc : RBc M n T tx st en SA rk cp cl) (hm : RBm M n T tx st SA rk) (hs : SGx n tx en) (hm2 : 2 ≤ m) (hm4 : m ≤ 408) (x : Int32) : ∀ (d i l at0 fuel : Nat), i + d = n + 1 → d < fuel → isBst n (OkL n T SA m) i l at0 → ∃ l2 at2, fX9_longest_31 fuel (nI m) x (nI l) (nI at0) (nI i) M = fX9_longest_111 x (nI l2) (nI at2) M ∧ isBst n (OkL n T SA m) n l2 at2 := by
  have hn := hc.1.1
  have h37 := hm.1.1
  intro d
  induction d with
  | zero =>
    intro i l at0 fuel hi hf hb
    obtain ⟨f, rfl⟩ : ∃ f, fuel = f + 1 := ⟨fuel - 1, by omega⟩
    refine ⟨l, at0, by simp (disch := omega) only [fX9_longest_31_s, h37, nI_plus, nI_lt_iff, if_pos], ?_⟩
    obtain ⟨h1, h2, h3⟩ := hb
    refine ⟨h1, ?_, fun j hj => h3 j (by omega)⟩
    rcases h2 with q | ⟨q1, q2, q3⟩
    · exact Or.inl q
    · exact Or.inr ⟨by have := q2.1; omega, q2, q3⟩
  | succ d ih =>
    intro i l at0 fuel hi hf hb
    obtain ⟨f, rfl⟩ : ∃ f, fuel = f + 1 := ⟨fuel - 1, by omega⟩
    have hl := hb.1
    by_cases g : n < i + m
    · refine ⟨l, at0, by simp (disch := omega) only [fX9_longest_31_s, h37, nI_plus, nI_lt_iff, if_pos], hb.fin (by omega) (fun j l' h1 h2 => by have := h2.1; omega)⟩
    · obtain ⟨v, e1, e2⟩ := win_loop hc hm hm4 (i := i) (by omega) (fX9_longest_31 f) x (nI l) (nI at0) (m - 1) (i + 1) 400 4096 (by omega) (by omega) (by omega) ⟨Nat.le_refl _, fun l' => ⟨fun h => ⟨h, fun j h1 h2 => by omega⟩, fun h => h.1⟩⟩
      have hb1 := bes_400 hc.1 hc.2.1 hs (show i + 1 < n by omega)
      have hv4 := e2.1
      have hO : ∀ l', 1 ≤ l' → (l' ≤ v ↔ OkL n T SA m l' i) := by
        intro l' _
        rw [e2.2 l']
        constructor
        · rintro ⟨-, a⟩; exact ⟨by omega, a⟩
        · rintro ⟨-, a⟩
          refine ⟨?_, a⟩
          have := a (i + 1) (by omega) (by omega)
          omega
      have hvn : v ≤ n := by
        have := (e2.2 v).mp (Nat.le_refl v)
        have := this.2 (i + 1) (by omega) (by omega)
        omega
      have hst := hb.step hvn hO
      obtain ⟨l2, at2, f1, f2⟩ := ih (i + 1) _ _ f (by omega) (by omega) hst
      refine ⟨l2, at2, ?_, f2⟩
      rw [← f1]
      have e400 : (400 : Int32) = nI 400 := rfl
      have hstep : fX9_longest_31 (f + 1) (nI m) x (nI l) (nI at0) (nI i) M = fX9_longest_92 (fX9_longest_31 f) (nI m) x (nI l) (nI at0) (nI i) (nI v) M := by
        simp (disch := omega) only [fX9_longest_31_s, h37, nI_plus, nI_lt_iff, if_neg, nI_add1, e400, e1]
      rw [hstep]
      by_cases q : v ≤ l
      · rw [if_pos q, if_pos q]
        simp (disch := omega) only [fX9_longest_92_s, nI_le_iff, if_pos, fX9_longest_105_s, nI_add1]
      · rw [if_neg q, if_neg q]
        simp (disch := omega) only [fX9_longest_92_s, nI_le_iff, if_neg, fX9_longest_105_s, nI_add1]
theorem longest_ok (hc : RBc M n T tx st en SA rk cp cl) (hm : RBm M n T tx st SA rk) (hs : SGx n tx en) (x y : Int32) : ∃ r, fX8_longest x y M = some r ∧ fX9_longest x y M = some r := by
  have hn := hc.1.1
  by_cases g1 : x < 2
  · exact ⟨-1, by rw [fX8_longest_s, if_pos g1], by rw [fX9_longest_s, if_pos g1]⟩
  · by_cases g2 : 408 < x
    · exact ⟨-1, by rw [fX8_longest_s, if_neg g1, if_pos g2], by rw [fX9_longest_s, if_neg g1, if_pos g2]⟩
    · by_cases g3 : y < 0
      · exact ⟨-1, by rw [fX8_longest_s, if_neg g1, if_neg g2, if_pos g3], by rw [fX9_longest_s, if_neg g1, if_neg g2, if_pos g3]⟩
      · by_cases g4 : y ≤ 2
        · have h0 : ¬ x < 0 := fun g => g1 (by
            rw [Int32.lt_iff_toInt_lt] at g ⊢
            have e0 : (0 : Int32).toInt = 0 := rfl
            have e1 : (2 : Int32).toInt = 2 := rfl
            omega)
          obtain ⟨m, hmb, rfl⟩ := nn_ex h0
          have hm2 : 2 ≤ m := by
            rcases Nat.lt_or_ge m 2 with g | g
            · exact absurd ((nI_lt_iff (a := m) (b := 2) (by omega) (by omega)).mpr g) g1
            · exact g
          have hm4 : m ≤ 408 := by
            rcases Nat.lt_or_ge 408 m with g | g
            · exact absurd ((nI_lt_iff (a := 408) (b := m) (by omega) (by omega)).mpr g) g2
            · exact g
          obtain ⟨l, i, e1, e2⟩ := long_loop hc hm hs hm2 hm4 y (n + 1) 0 0 0 4096 (by omega) (by omega) ⟨by omega, Or.inl rfl, fun j hj => by omega⟩
          have e1' : fX9_longest_31 4096 (nI m) y 0 0 0 M = fX9_longest_111 y (nI l) (nI i) M := e1
          obtain ⟨r, f1, f2⟩ := best_ok (w := 0) (m := m) (En := fun l a b => l ≤ lcx n T (SA a) (SA a) ∧ m ≤ b - a) hc hm (fun l a b h1 h2 h3 h4 => by
              have := enough0 hc (l := l) (by omega) hm4 h3 h4
              by_cases q : l ≤ lcx n T (SA a) (SA a) ∧ m ≤ b - a
              · rw [if_pos q] at this; exact Or.inl ⟨q, this⟩
              · rw [if_neg q] at this; exact Or.inr ⟨q, this⟩) e2 (fun l a b h => h.1) (fun l l' j h1 h2 h3 => ⟨h3.1, fun k h4 h5 => by have := h3.2 k h4 h5; omega⟩) (fun l j h1 h2 h3 => by
              obtain ⟨a, b, r1, r2, r3⟩ := run_ex (n := n) (T := T) (SA := SA) l h2
              have hbm : j + m ≤ b := by
                rcases Nat.lt_or_ge b (j + m) with q | q
                · have := h3.2 b r3 q
                  have := h3.1
                  have := r1.2.2.2.1
                  omega
                · exact q
              exact ⟨a, b, r1, r2, r3, run_end hc.1 r1 r2 r3 (bes_end hc.1 (h3.2 (j + 1) (by omega) (by omega))).1, by omega⟩) (fun l a b h1 r1 h => by
              have := r1.2.1
              exact ⟨by omega, fun k h2 h3 => r1.2.2.2.2 k h2 (by omega)⟩) y
          exact ⟨r, by rw [fX8_longest_s, if_neg g1, if_neg g2, if_neg g3, if_pos g4, f1, Option.bind_some], by rw [fX9_longest_s, if_neg g1, if_neg g2, if_neg g3, if_pos g4, e1', fX9_longest_111_s, f2, Option.bind_some]⟩
        · exact ⟨-1, by rw [fX8_longest_s, if_neg g1, if_neg g2, if_neg g3, if_neg g4], by rw [fX9_longest_s, if_neg g1, if_neg g2, if_neg g3, if_neg g4]⟩
end LNG
