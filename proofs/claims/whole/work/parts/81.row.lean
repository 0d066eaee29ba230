/-! THE ROW: ranks, neighbours -/
/-- a row of all places, and where each is in it -/
def PM (n : Nat) (T SA rk : Nat → Nat) : Prop := (∀ i, i < n → SA i < n ∧ rk (SA i) = i) ∧ (∀ p, p < n → rk p < n ∧ SA (rk p) = p) ∧ ∀ i j, i < j → j < n → slt n T (SA i) (SA j)
theorem PM.of_srt {n : Nat} {T o : Nat → Nat} (h : Srt n T o n) : ∃ rk, PM n T o rk := by
  have hex : ∀ q, ∃ i, q < n → i < n ∧ o i = q := by
    intro q
    by_cases hq : q < n
    · obtain ⟨i, hi⟩ := h.2.2 q hq; exact ⟨i, fun _ => hi⟩
    · exact ⟨0, fun g => absurd g hq⟩
  obtain ⟨rk, hrk⟩ : ∃ rk : Nat → Nat, ∀ q, q < n → rk q < n ∧ o (rk q) = q := ⟨fun q => Classical.choose (hex q), fun q => Classical.choose_spec (hex q)⟩
  refine ⟨rk, fun i hi => ⟨h.1 i hi, ?_⟩, hrk, h.2.1⟩
  have h1 := hrk (o i) (h.1 i hi)
  rcases Nat.lt_trichotomy (rk (o i)) i with g | g | g
  · have := h.2.1 _ _ g hi; rw [h1.2] at this; exact (slt_irr this).elim
  · exact g
  · have := h.2.1 _ _ g h1.1; rw [h1.2] at this; exact (slt_irr this).elim
theorem PM.sa {n : Nat} {T SA rk : Nat → Nat} (h : PM n T SA rk) : isSA n T (fun i => some (SA i)) := by
  refine ⟨fun j hj => ⟨SA j, (h.1 j hj).1, rfl⟩, fun j j' q q' hjj hj' e e' => ?_, fun q hq => ⟨rk q, (h.2.1 q hq).1, by show some _ = some q; rw [(h.2.1 q hq).2]⟩⟩
  have e := Option.some.inj e
  have e' := Option.some.inj e'
  rw [← e, ← e']
  exact h.2.2 j j' hjj hj'
theorem PM.lt {n : Nat} {T SA rk : Nat → Nat} (h : PM n T SA rk) {p q : Nat} (hp : p < n) (hq : q < n) : slt n T p q ↔ rk p < rk q := by
  have a := h.2.1 p hp
  have b := h.2.1 q hq
  constructor
  · intro g
    rcases Nat.lt_trichotomy (rk p) (rk q) with w | w | w
    · exact w
    · have : p = q := by rw [← a.2, ← b.2, w]
      subst this
      exact (slt_irr g).elim
    · have := h.2.2 _ _ w a.1
      rw [a.2, b.2] at this
      exact (slt_asymm g this).elim
  · intro w
    have := h.2.2 _ _ w b.1
    rw [a.2, b.2] at this
    exact this
theorem PM.le {n : Nat} {T SA rk : Nat → Nat} (h : PM n T SA rk) {i j : Nat} (hi : i < n) (hj : j < n) : slt n T (SA i) (SA j) ↔ i < j := by
  rw [h.lt (h.1 i hi).1 (h.1 j hj).1, (h.1 i hi).2, (h.1 j hj).2]
section ROW
variable {n : Nat} {T tx st en SA rk : Nat → Nat}
/-- what lies between two is as like as they are -/
theorem WFx.mid (hw : WFx n T tx st en) {x y z : Nat} (hx : x < n) (hy : y < n) (hz : z < n) (h1 : slt n T x y) (h2 : slt n T y z) : lcx n T x z ≤ lcx n T y z := by
  rcases Nat.lt_or_ge (lcx n T y z) (lcx n T x z) with g | g
  · exfalso
    have a := (hw.less hy hz).mp h2
    have b := lc_in g
    have c : lcx n T x y = lcx n T y z := by
      apply lc_eq
      · intro i hi
        have c1 := lc_in (show i < lcx n T x z by omega)
        have c2 := lc_in hi
        exact ⟨c1.1, c2.1, c1.2.2.1.trans c2.2.2.1.symm, c1.2.2.2⟩
      · intro w
        omega
    have d := (hw.less hx hy).mp h1
    rw [c] at d
    omega
  · exact g
theorem WFx.mid2 (hw : WFx n T tx st en) {x y z : Nat} (hx : x < n) (hy : y < n) (hz : z < n) (h1 : slt n T x y) (h2 : slt n T y z) : lcx n T x z ≤ lcx n T x y := by
  rcases Nat.lt_or_ge (lcx n T x y) (lcx n T x z) with g | g
  · exfalso
    have a := (hw.less hx hy).mp h1
    have b := lc_in g
    have c : lcx n T y z = lcx n T x y := by
      apply lc_eq
      · intro i hi
        have c1 := lc_in (show i < lcx n T x z by omega)
        have c2 := lc_in hi
        exact ⟨c2.2.1, c1.2.1, c2.2.2.1.symm.trans c1.2.2.1, by rw [← c2.2.2.1]; exact c2.2.2.2⟩
      · intro w
        omega
    have d := (hw.less hy hz).mp h2
    rw [c] at d
    omega
  · exact g
theorem lc_tr {x y z k : Nat} (h1 : k ≤ lcx n T x y) (h2 : k ≤ lcx n T y z) : k ≤ lcx n T x z := lc_ge fun i hi => by
  have a := lc_in (show i < lcx n T x y by omega)
  have b := lc_in (show i < lcx n T y z by omega)
  exact ⟨a.1, b.2.1, a.2.2.1.trans b.2.2.1, a.2.2.2⟩
def bes (n : Nat) (T SA : Nat → Nat) (i : Nat) : Nat := if i = 0 then 0 else lcx n T (SA i) (SA (i - 1))
theorem alike_loop {M : xM} (hw : WFx n T tx st en) (hL : LTc M n T tx st en) {p q : Nat} (hp : p < n) (hq : q < n) (hne : p ≠ q) : ∀ (d k fuel : Nat), k + d = lcx n T p q → d < fuel → fX7_alikeFrom_3 fuel (nI p) (nI q) (nI k) M = some (nI (lcx n T p q)) := by
  have hn := hw.1
  have h4 := hL.1
  have a := (hw.lcn hp q).1
  have b := (hw.lcn hq p).1
  rw [lc_symm] at b
  intro d
  induction d with
  | zero =>
    intro k fuel hk hf
    obtain ⟨f, rfl⟩ : ∃ f, fuel = f + 1 := ⟨fuel - 1, by omega⟩
    have : k = lcx n T p q := by omega
    have h1 := (hL.2.1 (p + k) (by omega)).1
    have h2 := (hL.2.1 (q + k) (by omega)).1
    have b1 := (hw.2.1 (p + k) (by omega)).1
    have b2 := (hw.2.1 (q + k) (by omega)).1
    have hd := hw.part hp hq hne
    rw [← this] at hd ⊢
    simp (disch := omega) only [fX7_alikeFrom_3_s, h4, nI_plus, nI_le_iff, if_neg, if_false, xin_nI, nI_clamp, h1, h2, nI_eq_iff, if_pos, if_true]
  | succ d ih =>
    intro k fuel hk hf
    obtain ⟨f, rfl⟩ : ∃ f, fuel = f + 1 := ⟨fuel - 1, by omega⟩
    have hin := lc_in (show k < lcx n T p q by omega)
    have h1 := (hL.2.1 (p + k) (by omega)).1
    have h2 := (hL.2.1 (q + k) (by omega)).1
    have b1 := (hw.2.1 (p + k) (by omega)).1
    have b2 := (hw.2.1 (q + k) (by omega)).1
    have hh := ih (k + 1) f (by omega) (by omega)
    have hc := hin.2.2.1
    simp (disch := omega) only [fX7_alikeFrom_3_s, h4, nI_plus, nI_le_iff, if_neg, if_false, xin_nI, nI_clamp, h1, h2, nI_eq_iff, if_pos, if_true, nI_add1, hh]
theorem alike_ok {M : xM} (hw : WFx n T tx st en) (hL : LTc M n T tx st en) {p q k : Nat} (hp : p < n) (hq : q < n) (hne : p ≠ q) (hk : k ≤ lcx n T p q) : fX7_alikeFrom (nI p) (nI q) (nI k) M = some (nI (lcx n T p q)) := by
  rw [fX7_alikeFrom_s]
  have := (hw.lcn hp q).2
  exact alike_loop hw hL hp hq hne (lcx n T p q - k) k 4096 (by omega) (by omega)
theorem bes_loop (hw : WFx n T tx st en) (hP : PM n T SA rk) : ∀ (d p a fuel : Nat) (M : xM), p + d = n → d < fuel → LTc M n T tx st en → (∀ i, i < n → M 10 i = nI (SA i)) → (∀ q, q < n → M 11 q = nI (rk q)) → (∀ q, q < p → M 12 (rk q) = nI (bes n T SA (rk q))) → a ≤ 408 → (p < n → 0 < rk p → a ≤ bes n T SA (rk p)) →
    ∃ M2, fX3_measureBesides_4 fuel (nI a) (nI p) M = some M2 ∧ (∀ q, q < n → M2 12 (rk q) = nI (bes n T SA (rk q))) ∧ Fr [12] M M2 := by
  have hn := hw.1
  intro d
  induction d with
  | zero =>
    intro p a fuel M hp hf hL h10 h11 h12 _ _
    obtain ⟨f, rfl⟩ : ∃ f, fuel = f + 1 := ⟨fuel - 1, by omega⟩
    have h4 := hL.1
    exact ⟨M, by simp (disch := omega) only [fX3_measureBesides_4_s, h4, nI_le_iff, if_pos, if_true], fun q hq => h12 q (by omega), Fr.rf⟩
  | succ d ih =>
    intro p a fuel M hp hf hL h10 h11 h12 ha hka
    obtain ⟨f, rfl⟩ : ∃ f, fuel = f + 1 := ⟨fuel - 1, by omega⟩
    have h4 := hL.1
    have hpn : p < n := by omega
    have hr := hP.2.1 p hpn
    have hr11 := h11 p hpn
    -- behind the measure
    have tail : ∀ v, v = bes n T SA (rk p) → v ≤ 408 → ∃ M2, fX3_measureBesides_47 (fX3_measureBesides_4 f) (nI p) (nI (rk p)) (nI v) M = some M2 ∧ (∀ q, q < n → M2 12 (rk q) = nI (bes n T SA (rk q))) ∧ Fr [12] M M2 := by
      intro v hv hv4
      have hnext : p + 1 < n → 0 < rk (p + 1) → v - 1 ≤ bes n T SA (rk (p + 1)) := by
        intro hp1 hrp
        by_cases h0 : v = 0
        · omega
        · have hrk0 : rk p ≠ 0 := by
            intro e
            rw [hv, e] at h0
            exact h0 (by unfold bes; rw [if_pos rfl])
          have hb : bes n T SA (rk p) = lcx n T p (SA (rk p - 1)) := by unfold bes; rw [if_neg hrk0, hr.2]
          have hq := hP.1 (rk p - 1) (by omega)
          obtain ⟨q, hqe⟩ : ∃ q, q = SA (rk p - 1) := ⟨_, rfl⟩
          rw [← hqe] at hb hq
          have hin := lc_in (show 0 < lcx n T p q by omega)
          rw [Nat.add_zero, Nat.add_zero] at hin
          have hl1 : lcx n T p q = lcx n T (p + 1) (q + 1) + 1 := lc1 hin
          have hq1 : q + 1 < n := by
            have := hw.2.1 q hq.1
            by_cases e : q = en (tx q)
            · rw [← e] at this; omega
            · omega
          have hs : slt n T q p := by
            have := hP.2.2 (rk p - 1) (rk p) (by omega) hr.1
            rw [← hqe, hr.2] at this
            exact this
          have hs1 : slt n T (q + 1) (p + 1) := by
            rw [slt_head hq.1 hpn] at hs
            rcases hs with g | g
            · omega
            · exact g.2
          have hrq := (hP.lt hq1 hp1).mp hs1
          have hr1 := hP.2.1 (p + 1) hp1
          have hb1 : bes n T SA (rk (p + 1)) = lcx n T (p + 1) (SA (rk (p + 1) - 1)) := by unfold bes; rw [if_neg (by omega), hr1.2]
          rw [hb1]
          have hge : lcx n T (p + 1) (q + 1) ≤ lcx n T (p + 1) (SA (rk (p + 1) - 1)) := by
            by_cases e : rk (q + 1) = rk (p + 1) - 1
            · rw [← e, (hP.2.1 (q + 1) hq1).2]; exact Nat.le_refl _
            · have c1 := hP.1 (rk (p + 1) - 1) (by omega)
              have m := hw.mid hq1 c1.1 hp1 ((hP.lt hq1 c1.1).mpr (by rw [c1.2]; omega)) ((hP.lt c1.1 hp1).mpr (by rw [c1.2]; omega))
              rw [lc_symm n T (p + 1) (q + 1), lc_symm n T (p + 1)]
              exact m
          omega
      obtain ⟨M2, b1, b2, b3⟩ := ih (p + 1) (v - 1) f (xs1 M 12 (rk p) (nI v)) (by omega) (by omega) (hL.of (by rw [xs1_ne (by decide)]) (xs1_ne (by decide)) (xs1_ne (by decide)) (xs1_ne (by decide)) (xs1_ne (by decide))) (fun i hi => by rw [xs1_ne (by decide)]; exact h10 i hi) (fun q hq => by rw [xs1_ne (by decide)]; exact h11 q hq) (fun q hq => by
        rw [xs1_cell]
        by_cases e : rk q = rk p
        · rw [if_pos e, e, hv]
        · rw [if_neg e]
          by_cases e2 : q = p
          · rw [e2] at e; exact absurd rfl e
          · exact h12 q (by omega)) (by omega) hnext
      refine ⟨M2, ?_, b2, (Fr.s1 (by decide)).tr b3⟩
      by_cases h0 : v = 0
      · have z : nI v ≤ 0 := (nI_le0 (by omega)).mpr h0
        rw [h0] at b1
        have b1' : fX3_measureBesides_4 f (nI 0) (nI (p + 1)) (xs1 M 12 (rk p) (nI v)) = some M2 := by rw [h0]; exact b1
        rw [h0] at z
        simp (disch := omega) only [fX3_measureBesides_47_s, xin_nI, nI_clamp, if_pos, if_true, xlt_def, h0, z, fX3_measureBesides_62_s, nI_add1]
        exact b1
      · have z : ¬ nI v ≤ 0 := fun g => h0 ((nI_le0 (by omega)).mp g)
        have e1 : nI v + (-1) = nI (v - 1) := by
          rw [nI_addm1]
          have := nI_sub1 (v - 1)
          rw [show v - 1 + 1 = v by omega] at this
          exact this
        simp (disch := omega) only [fX3_measureBesides_47_s, xin_nI, nI_clamp, if_pos, if_true, if_false, xlt_def, z, e1, fX3_measureBesides_62_s, nI_add1, b1]
    by_cases h0 : rk p = 0
    · have hb0 : bes n T SA (rk p) = 0 := by unfold bes; rw [if_pos h0]
      obtain ⟨M2, b1, b2⟩ := tail 0 hb0.symm (by omega)
      refine ⟨M2, ?_, b2⟩
      have z : nI (rk p) = 0 := by rw [h0]; rfl
      have b1' : fX3_measureBesides_47 (fX3_measureBesides_4 f) (nI p) (nI (rk p)) 0 M = some M2 := b1
      rw [z] at b1'
      simp (disch := omega) only [fX3_measureBesides_4_s, h4, nI_le_iff, if_neg, if_false, xin_nI, nI_clamp, if_pos, if_true, hr11, z, b1']
    · have z : ¬ nI (rk p) = 0 := fun g => h0 ((nI_eq0 (by omega)).mp g)
      have e1 : nI (rk p) - 1 = nI (rk p - 1) := by
        have := nI_sub1 (rk p - 1)
        rw [show rk p - 1 + 1 = rk p by omega] at this
        exact this
      have hq := hP.1 (rk p - 1) (by omega)
      have hq10 := h10 (rk p - 1) (by omega)
      have hb : bes n T SA (rk p) = lcx n T p (SA (rk p - 1)) := by unfold bes; rw [if_neg h0, hr.2]
      have hne : p ≠ SA (rk p - 1) := by
        intro e
        have := hq.2
        rw [← e] at this
        omega
      have hal := alike_ok hw hL hpn hq.1 hne (k := a) (by rw [← hb]; exact hka hpn (by omega))
      have hle := (hw.lcn hpn (SA (rk p - 1))).2
      obtain ⟨M2, b1, b2⟩ := tail (lcx n T p (SA (rk p - 1))) hb.symm (by omega)
      refine ⟨M2, ?_, b2⟩
      simp (disch := omega) only [fX3_measureBesides_4_s, h4, nI_le_iff, if_neg, if_false, xin_nI, nI_clamp, if_pos, if_true, hr11, z, e1, hq10, hal, Option.bind_some, b1]
theorem rank_loop (hn : n ≤ 408) (hP : PM n T SA rk) : ∀ (d i fuel : Nat) (M : xM), i + d = n → d < fuel → M 4 4 = nI n → (∀ j, j < n → M 10 j = nI (SA j)) → (∀ j, j < i → M 11 (SA j) = nI j) →
    ∃ M2, fX3_make_46 fuel (nI i) M = fX3_make_75 M2 ∧ (∀ j, j < n → M2 11 (SA j) = nI j) ∧ Fr [11] M M2 := by
  intro d
  induction d with
  | zero =>
    intro i fuel M hi hf h4 h10 h11
    obtain ⟨f, rfl⟩ : ∃ f, fuel = f + 1 := ⟨fuel - 1, by omega⟩
    exact ⟨M, by simp (disch := omega) only [fX3_make_46_s, h4, nI_le_iff, if_pos, if_true], fun j hj => h11 j (by omega), Fr.rf⟩
  | succ d ih =>
    intro i fuel M hi hf h4 h10 h11
    obtain ⟨f, rfl⟩ : ∃ f, fuel = f + 1 := ⟨fuel - 1, by omega⟩
    have hs := (hP.1 i (by omega)).1
    have h10i := h10 i (by omega)
    obtain ⟨M2, a1, a2, a3⟩ := ih (i + 1) f (xs1 M 11 (SA i) (nI i)) (by omega) (by omega) (by rw [xs1_ne (by decide)]; exact h4) (fun j hj => by rw [xs1_ne (by decide)]; exact h10 j hj) (fun j hj => by
      rw [xs1_cell]
      by_cases e : SA j = SA i
      · have e1 := (hP.1 j (by omega)).2
        have e2 := (hP.1 i (by omega)).2
        rw [e] at e1
        rw [if_pos e]
        congr 1
        omega
      · rw [if_neg e]
        refine h11 j ?_
        by_cases e3 : j = i
        · rw [e3] at e; exact absurd rfl e
        · omega)
    refine ⟨M2, ?_, a2, (Fr.s1 (by decide)).tr a3⟩
    simp (disch := omega) only [fX3_make_46_s, h4, nI_le_iff, if_neg, if_false, xin_nI, nI_clamp, h10i, if_pos, if_true, xlt_def, nI_add1, a1]
/-- THE ROW is made -/
theorem row_ok {M : xM} (hw : WFx n T tx st en) (hL : LTc M n T tx st en) : ∃ (M2 : xM) (SA rk : Nat → Nat), fX3_make M = some M2 ∧ PM n T SA rk ∧ (∀ i, i < n → M2 10 i = nI (SA i)) ∧ (∀ p, p < n → M2 11 p = nI (rk p)) ∧ (∀ i, i < n → M2 12 i = nI (bes n T SA i)) ∧ Fr [10, 11, 12, 14, 15, 16, 17, 18, 19, 20, 21, 22, 23, 24] M M2 := by
  have hn := hw.1
  obtain ⟨M1, o, a1, a2, a3, a4⟩ := sort_ok (M := M) (T := T) hn (fun p hp => ⟨(hL.2.1 p hp).1, (hw.2.1 p hp).1⟩)
  obtain ⟨SA, hSA⟩ : ∃ SA : Nat → Nat, ∀ j, j < n → o j = some (SA j) := by
    refine ⟨fun j => (o j).getD 0, fun j hj => ?_⟩
    obtain ⟨q, x, y⟩ := a2.1 j hj
    show o j = some ((o j).getD 0)
    rw [y]; rfl
  have hsrt : Srt n T SA n := by
    refine ⟨fun i hi => ?_, fun i j hij hj => a2.2.1 i j _ _ hij hj (hSA i (by omega)) (hSA j hj), fun q hq => ?_⟩
    · obtain ⟨q, x, y⟩ := a2.1 i hi
      rw [hSA i hi] at y
      have := Option.some.inj y
      omega
    · obtain ⟨j, hj, e⟩ := a2.2.2 q hq
      rw [hSA j hj] at e
      exact ⟨j, hj, Option.some.inj e⟩
  obtain ⟨rk, hP⟩ := PM.of_srt hsrt
  have h44 : M1 4 4 = nI n := by rw [a4 4 (by decide)]; exact hL.1
  obtain ⟨M2, e2⟩ : ∃ M2, M2 = xcp M1 14 10 0 0 (nI n) := ⟨_, rfl⟩
  have q0 : (0 : Int32).toNatClampNeg = 0 := by decide
  have h10 : ∀ j, j < n → M2 10 j = nI (SA j) := by
    intro j hj
    rw [e2, xcp_cell, q0, nI_clamp (by omega), if_pos (by omega), show 0 + (j - 0) = j by omega, a3 j hj, hSA j hj]
    rfl
  have F2 : Fr [10] M1 M2 := by rw [e2]; exact Fr.st (by decide)
  obtain ⟨M3, b1, b2, b3⟩ := rank_loop hn hP n 0 4096 M2 (by omega) (by omega) (by rw [F2 4 (by decide)]; exact h44) h10 (fun j hj => by omega)
  have h11 : ∀ p, p < n → M3 11 p = nI (rk p) := by
    intro p hp
    have := b2 (rk p) (hP.2.1 p hp).1
    rw [(hP.2.1 p hp).2] at this
    exact this
  have hL3 : LTc M3 n T tx st en := hL.of (by rw [b3 4 (by decide), F2 4 (by decide), a4 4 (by decide)]) (by rw [b3 5 (by decide), F2 5 (by decide), a4 5 (by decide)]) (by rw [b3 6 (by decide), F2 6 (by decide), a4 6 (by decide)]) (by rw [b3 7 (by decide), F2 7 (by decide), a4 7 (by decide)]) (by rw [b3 8 (by decide), F2 8 (by decide), a4 8 (by decide)])
  obtain ⟨M4, c1, c2, c3⟩ := bes_loop hw hP n 0 0 4096 M3 (by omega) (by omega) hL3 (fun i hi => by rw [b3 10 (by decide)]; exact h10 i hi) h11 (fun q hq => by omega) (by omega) (fun _ _ => by omega)
  refine ⟨M4, SA, rk, ?_, hP, fun i hi => by rw [c3 10 (by decide), b3 10 (by decide)]; exact h10 i hi, fun p hp => by rw [c3 11 (by decide)]; exact h11 p hp, fun i hi => ?_, ?_⟩
  · have h4 := hL.1
    have b1' : fX3_make_46 4096 0 M2 = fX3_make_75 M3 := b1
    have c1' : fX3_measureBesides_4 4096 0 0 M3 = some M4 := c1
    simp (disch := omega) only [fX3_make_s, h4, a1, Option.bind_some, h44, xcin_00, and_self, if_pos, if_true, xlt_def, ← e2, b1', fX3_make_75_s, fX3_measureBesides_s, c1']
  · have := c2 (SA i) (hP.1 i hi).1
    rw [(hP.1 i hi).2] at this
    exact this
  · have g1 : Fr [10, 11, 12, 14, 15, 16, 17, 18, 19, 20, 21, 22, 23, 24] M M1 := a4.mono (fun k hk => by simp at hk ⊢; omega)
    have g2 : Fr [10, 11, 12, 14, 15, 16, 17, 18, 19, 20, 21, 22, 23, 24] M1 M2 := F2.mono (fun k hk => by simp at hk ⊢; omega)
    have g3 : Fr [10, 11, 12, 14, 15, 16, 17, 18, 19, 20, 21, 22, 23, 24] M2 M3 := b3.mono (fun k hk => by simp at hk ⊢; omega)
    have g4 : Fr [10, 11, 12, 14, 15, 16, 17, 18, 19, 20, 21, 22, 23, 24] M3 M4 := c3.mono (fun k hk => by simp at hk ⊢; omega)
    exact ((g1.tr g2).tr g3).tr g4
end ROW
