/-! NAMES OF PIECES, and the shorter row of letters that they are -/
def nmx (n : Nat) (S : Nat → Bool) (o : Nat → Option Nat) (sm : Nat → Nat → Bool) (nm0 : Nat → Nat) : Nat → Nat × Option Nat × (Nat → Nat)
  | 0 => (0, none, nm0)
  | k + 1 => match o k with
    | none => nmx n S o sm nm0 k
    | some p => if LMx n S p then
        let nd := if (match (nmx n S o sm nm0 k).2.1 with | none => true | some l => !sm l p) then (nmx n S o sm nm0 k).1 + 1 else (nmx n S o sm nm0 k).1
        (nd, some p, fup (nmx n S o sm nm0 k).2.2 p (nd - 1))
      else nmx n S o sm nm0 k
def isL (n : Nat) (S : Nat → Bool) (o : Nat → Option Nat) (j : Nat) : Bool := match o j with | some p => LMx n S p | none => false
theorem isL_of {n : Nat} {S : Nat → Bool} {o : Nat → Option Nat} {j p : Nat} (h : o j = some p) (hL : LMx n S p = true) : isL n S o j = true := by unfold isL; rw [h]; exact hL
def NI (n : Nat) (T : Nat → Nat) (S : Nat → Bool) (o : Nat → Option Nat) (k : Nat) (st : Nat × Option Nat × (Nat → Nat)) : Prop :=
  (∀ v, v < st.1 → ∃ p j, j < k ∧ o j = some p ∧ LMx n S p = true ∧ st.2.2 p = v) ∧
  (∀ j p, j < k → o j = some p → LMx n S p = true → st.2.2 p < st.1) ∧
  (∀ j j' p q, j < j' → j' < k → o j = some p → o j' = some q → LMx n S p = true → LMx n S q = true → st.2.2 p ≤ st.2.2 q ∧ (st.2.2 p = st.2.2 q ↔ samep n T S p q)) ∧
  (match st.2.1 with
    | none => st.1 = 0 ∧ ∀ j p, j < k → o j = some p → LMx n S p = false
    | some l => ∃ jl, jl < k ∧ o jl = some l ∧ LMx n S l = true ∧ st.2.2 l + 1 = st.1 ∧ ∀ j p, jl < j → j < k → o j = some p → LMx n S p = false) ∧
  (st.1 ≤ cnt (isL n S o) k ∧ (st.1 = cnt (isL n S o) k → ∀ j j' p q, j < j' → j' < k → o j = some p → o j' = some q → LMx n S p = true → LMx n S q = true → st.2.2 p ≠ st.2.2 q))
section NAMES
variable {n : Nat} {T : Nat → Nat} {S : Nat → Bool} {o : Nat → Option Nat} {sm : Nat → Nat → Bool} {nm0 : Nat → Nat}
theorem NI.skip {k : Nat} {st : Nat × Option Nat × (Nat → Nat)} (h : NI n T S o k st) (hno : isL n S o k = false) : NI n T S o (k + 1) st := by
  have hk : ∀ p, o k = some p → LMx n S p = true → False := by
    intro p hp hL
    rw [isL_of hp hL] at hno
    exact absurd hno (by simp)
  obtain ⟨h1, h2, h3, h4, h5⟩ := h
  refine ⟨fun v hv => ?_, fun j p hj hp hL => ?_, fun j j' p q hjj hj' hp hq hL hL' => ?_, ?_, ?_⟩
  · obtain ⟨p, j, a, b⟩ := h1 v hv
    exact ⟨p, j, by omega, b⟩
  · by_cases e : j = k
    · subst e; exact (hk p hp hL).elim
    · exact h2 j p (by omega) hp hL
  · by_cases e : j' = k
    · subst e; exact (hk q hq hL').elim
    · exact h3 j j' p q hjj (by omega) hp hq hL hL'
  · cases hx : st.2.1 with
    | none =>
      rw [hx] at h4
      refine ⟨h4.1, fun j p hj hp => ?_⟩
      by_cases e : j = k
      · subst e
        cases hz : LMx n S p with
        | false => rfl
        | true => exact (hk p hp hz).elim
      · exact h4.2 j p (by omega) hp
    | some l =>
      rw [hx] at h4
      obtain ⟨jl, a1, a2, a3, a4, a5⟩ := h4
      refine ⟨jl, by omega, a2, a3, a4, fun j p h0 hj hp => ?_⟩
      by_cases e : j = k
      · subst e
        cases hz : LMx n S p with
        | false => rfl
        | true => exact (hk p hp hz).elim
      · exact a5 j p h0 (by omega) hp
  · have hc : cnt (isL n S o) (k + 1) = cnt (isL n S o) k := by simp only [cnt]; rw [hno]; simp
    rw [hc]
    refine ⟨h5.1, fun he j j' p q hjj hj' hp hq hL hL' => ?_⟩
    by_cases e : j' = k
    · subst e; exact (hk q hq hL').elim
    · exact h5.2 he j j' p q hjj (by omega) hp hq hL hL'
theorem NI.all (hSd : ∀ p, p < n → (S p = true ↔ slt n T p (p + 1))) (hsm : ∀ p q, LMx n S p = true → LMx n S q = true → (sm p q = true ↔ samep n T S p q))
    (hinj : ∀ j j' q, j < n → j' < n → o j = some q → o j' = some q → j = j') (hso : ∀ j j' q q', j < j' → j' < n → o j = some q → o j' = some q' → slt n T q q' ∨ samep n T S q q') :
    ∀ k, k ≤ n → NI n T S o k (nmx n S o sm nm0 k) := by
  intro k
  induction k with
  | zero =>
    intro _
    refine ⟨fun v hv => ?_, fun j p hj => by omega, fun j j' p q _ hj' => by omega, ⟨rfl, fun j p hj => by omega⟩, ⟨Nat.le_refl _, fun _ j j' p q _ hj' => by omega⟩⟩
    have : v < 0 := hv
    omega
  | succ k ih =>
    intro hk
    have h := ih (by omega)
    simp only [nmx]
    cases hok : o k with
    | none => exact h.skip (by unfold isL; rw [hok])
    | some p =>
      simp only []
      cases hLp : LMx n S p with
      | false =>
        simp only [Bool.false_eq_true, if_false]
        exact h.skip (by unfold isL; rw [hok]; exact hLp)
      | true =>
        simp only [if_true]
        have hcnt : cnt (isL n S o) (k + 1) = cnt (isL n S o) k + 1 := by simp only [cnt]; rw [isL_of hok hLp]; simp
        have hne : ∀ j q, j < k → o j = some q → q ≠ p := by
          intro j q hj hq e
          subst e
          have := hinj j k q (by omega) (by omega) hq hok
          omega
        generalize nmx n S o sm nm0 k = st at h ⊢
        obtain ⟨nd0, la, nm⟩ := st
        obtain ⟨h1, h2, h3, h4, h5⟩ := h
        simp only at h1 h2 h3 h4 h5 ⊢
        cases la with
        | none =>
          obtain ⟨h4a, h4b⟩ := h4
          subst h4a
          simp only [if_true]
          refine ⟨fun v hv => ?_, fun j q hj hq hL => ?_, fun j j' x q hjj hj' hx hq hL hL' => ?_, ⟨k, by omega, hok, hLp, ?_, fun j q h0 hj => by omega⟩, ?_, ?_⟩
          · exact ⟨p, k, by omega, hok, hLp, by show fup nm p (0 + 1 - 1) p = v; rw [fup_self]; have : v < 0 + 1 := hv; omega⟩
          · by_cases e : j = k
            · subst e
              rw [hok] at hq
              have := Option.some.inj hq
              subst this
              show fup nm p (0 + 1 - 1) p < 0 + 1
              rw [fup_self]; omega
            · have := h4b j q (by omega) hq
              rw [this] at hL
              exact absurd hL (by simp)
          · have := h4b j x (by omega) hx
            rw [this] at hL
            exact absurd hL (by simp)
          · show fup nm p (0 + 1 - 1) p + 1 = 0 + 1
            rw [fup_self]
          · rw [hcnt]; show 0 + 1 ≤ _; omega
          · intro _ j j' x q hjj hj' hx hq hL hL'
            have := h4b j x (by omega) hx
            rw [this] at hL
            exact absurd hL (by simp)
        | some lx =>
          obtain ⟨jl, a1, a2, a3, a4, a5⟩ := h4
          have hlp : slt n T lx p ∨ samep n T S lx p := hso jl k lx p a1 (by omega) a2 hok
          have hbef : ∀ j q, j < k → o j = some q → LMx n S q = true → j ≤ jl := by
            intro j q hj hq hL
            rcases Nat.lt_or_ge jl j with g | g
            · have := a5 j q g hj hq
              rw [this] at hL
              exact absurd hL (by simp)
            · exact g
          simp only at a4 ⊢
          by_cases hs : sm lx p = true
          · have hsp := (hsm lx p a3 hLp).mp hs
            simp only [hs, Bool.not_true, Bool.false_eq_true, if_false]
            refine ⟨fun v hv => ?_, fun j q hj hq hL => ?_, fun j j' x q hjj hj' hx hq hL hL' => ?_, ⟨k, by omega, hok, hLp, ?_, fun j q h0 hj => by omega⟩, ?_, ?_⟩
            · obtain ⟨q, j, b1, b2, b3, b4⟩ := h1 v hv
              exact ⟨q, j, by omega, b2, b3, by show fup nm p _ q = v; rw [fup_ne _ _ (hne j q b1 b2)]; exact b4⟩
            · show fup nm p (nd0 - 1) q < nd0
              by_cases e : q = p
              · subst e; rw [fup_self]; omega
              · rw [fup_ne _ _ e]
                by_cases e2 : j = k
                · subst e2; rw [hok] at hq; exact absurd (Option.some.inj hq).symm e
                · exact h2 j q (by omega) hq hL
            · show fup nm p (nd0 - 1) x ≤ fup nm p (nd0 - 1) q ∧ (fup nm p (nd0 - 1) x = fup nm p (nd0 - 1) q ↔ _)
              have hxp : x ≠ p := hne j x (by omega) hx
              rw [fup_ne _ _ hxp]
              by_cases e : j' = k
              · subst e
                rw [hok] at hq
                have := Option.some.inj hq
                subst this
                rw [fup_self]
                have hjl := hbef j x (by omega) hx hL
                have hnl : nd0 - 1 = nm lx := by omega
                rw [hnl]
                by_cases e3 : j = jl
                · subst e3
                  rw [a2] at hx
                  have := Option.some.inj hx
                  subst this
                  exact ⟨Nat.le_refl _, fun _ => hsp, fun _ => rfl⟩
                · have := h3 j jl x lx (by omega) a1 hx a2 hL a3
                  exact ⟨this.1, this.2.trans ⟨fun g => g.trans hsp, fun g => g.trans hsp.symm⟩⟩
              · have hqp : q ≠ p := hne j' q (by omega) hq
                rw [fup_ne _ _ hqp]
                exact h3 j j' x q hjj (by omega) hx hq hL hL'
            · show fup nm p (nd0 - 1) p + 1 = nd0
              rw [fup_self]; omega
            · rw [hcnt]; show nd0 ≤ _; omega
            · intro he
              rw [hcnt] at he
              have : nd0 = cnt (isL n S o) k + 1 := he
              omega
          · have hs : sm lx p = false := by simpa using hs
            have hsp : ¬ samep n T S lx p := fun g => by rw [(hsm lx p a3 hLp).mpr g] at hs; exact absurd hs (by simp)
            have hlt : slt n T lx p := hlp.resolve_right hsp
            simp only [hs, Bool.not_false, if_true]
            have hnew : ∀ j x, j < k → o j = some x → LMx n S x = true → ¬ samep n T S x p := by
              intro j x hj hx hL hsx
              have hjl := hbef j x hj hx hL
              by_cases e : j = jl
              · subst e
                rw [a2] at hx
                have := Option.some.inj hx
                subst this
                exact hsp hsx
              · by_cases hxl : samep n T S x lx
                · exact hsp (hxl.symm.trans hsx)
                · have h6 : slt n T x lx := (hso j jl x lx (by omega) (by omega) hx a2).resolve_right hxl
                  exact slt_asymm hlt (samep_lt hSd hsx h6 hxl)
            refine ⟨fun v hv => ?_, fun j q hj hq hL => ?_, fun j j' x q hjj hj' hx hq hL hL' => ?_, ⟨k, by omega, hok, hLp, ?_, fun j q h0 hj => by omega⟩, ?_, ?_⟩
            · have hv : v < nd0 + 1 := hv
              by_cases e : v = nd0
              · exact ⟨p, k, by omega, hok, hLp, by show fup nm p (nd0 + 1 - 1) p = v; rw [fup_self]; omega⟩
              · obtain ⟨q, j, b1, b2, b3, b4⟩ := h1 v (by omega)
                exact ⟨q, j, by omega, b2, b3, by show fup nm p _ q = v; rw [fup_ne _ _ (hne j q b1 b2)]; exact b4⟩
            · show fup nm p (nd0 + 1 - 1) q < nd0 + 1
              by_cases e : q = p
              · subst e; rw [fup_self]; omega
              · rw [fup_ne _ _ e]
                by_cases e2 : j = k
                · subst e2; rw [hok] at hq; exact absurd (Option.some.inj hq).symm e
                · have := h2 j q (by omega) hq hL; omega
            · show fup nm p (nd0 + 1 - 1) x ≤ fup nm p (nd0 + 1 - 1) q ∧ (fup nm p (nd0 + 1 - 1) x = fup nm p (nd0 + 1 - 1) q ↔ _)
              have hxp : x ≠ p := hne j x (by omega) hx
              rw [fup_ne _ _ hxp]
              by_cases e : j' = k
              · subst e
                rw [hok] at hq
                have := Option.some.inj hq
                subst this
                rw [fup_self]
                have h7 := h2 j x (by omega) hx hL
                refine ⟨by omega, fun g => by omega, fun g => absurd g (hnew j x (by omega) hx hL)⟩
              · have hqp : q ≠ p := hne j' q (by omega) hq
                rw [fup_ne _ _ hqp]
                exact h3 j j' x q hjj (by omega) hx hq hL hL'
            · show fup nm p (nd0 + 1 - 1) p + 1 = nd0 + 1
              rw [fup_self]; omega
            · rw [hcnt]; show nd0 + 1 ≤ _; omega
            · intro he j j' x q hjj hj' hx hq hL hL'
              have he : nd0 + 1 = cnt (isL n S o) k + 1 := by rw [← hcnt]; exact he
              show fup nm p (nd0 + 1 - 1) x ≠ fup nm p (nd0 + 1 - 1) q
              have hxp : x ≠ p := hne j x (by omega) hx
              rw [fup_ne _ _ hxp]
              by_cases e : j' = k
              · subst e
                rw [hok] at hq
                have := Option.some.inj hq
                subst this
                rw [fup_self]
                have h7 := h2 j x (by omega) hx hL
                omega
              · have hqp : q ≠ p := hne j' q (by omega) hq
                rw [fup_ne _ _ hqp]
                exact h5.2 (by omega) j j' x q hjj (by omega) hx hq hL hL'
end NAMES
/-! the turns, from the left -/
def turnsx (n : Nat) (S : Nat → Bool) (m : Nat) (tn : Nat → Nat) : Prop := (∀ k, k < m → LMx n S (tn k) = true) ∧ (∀ k, k + 1 < m → tn k < tn (k + 1)) ∧ ∀ q, LMx n S q = true → ∃ k, k < m ∧ tn k = q
section TURNS
variable {n m : Nat} {T : Nat → Nat} {S : Nat → Bool} {tn : Nat → Nat}
theorem turnsx.mono (h : turnsx n S m tn) : ∀ (d k : Nat), k + d + 1 < m → tn k < tn (k + d + 1) := by
  intro d
  induction d with
  | zero => intro k hk; exact h.2.1 k hk
  | succ d ih =>
    intro k hk
    have h1 := ih k (by omega)
    have h2 := h.2.1 (k + d + 1) (by omega)
    rw [show k + (d + 1) + 1 = k + d + 1 + 1 by omega]
    omega
theorem turnsx.lt (h : turnsx n S m tn) {k k' : Nat} (h1 : k < k') (h2 : k' < m) : tn k < tn k' := by
  have := h.mono (k' - k - 1) k (by omega)
  rw [show k + (k' - k - 1) + 1 = k' by omega] at this
  exact this
theorem turnsx.inj (h : turnsx n S m tn) {k k' : Nat} (h1 : k < m) (h2 : k' < m) (he : tn k = tn k') : k = k' := by
  rcases Nat.lt_trichotomy k k' with g | g | g
  · have := h.lt g h2; omega
  · exact g
  · have := h.lt g h1; omega
theorem turnsx.seeds (h : turnsx n S m tn) : seeds n (LMx n S) m tn := ⟨fun i hi => ⟨(LMx_iff.mp (h.1 i hi)).2.1, h.1 i hi⟩, fun i i' h1 h2 e => h.inj h1 h2 e, fun q _ hL => h.2.2 q hL⟩
theorem turnsx.next (h : turnsx n S m tn) {k d : Nat} (hk : k < m) (hp : piece n S (tn k) d) : k + 1 < m ∧ tn (k + 1) = tn k + d := by
  obtain ⟨k', h1, h2⟩ := h.2.2 _ hp.2.2.1
  have hkk : k < k' := by
    rcases Nat.lt_trichotomy k k' with g | g | g
    · exact g
    · subst g; have := hp.1; omega
    · have := h.lt g hk; omega
  refine ⟨by omega, ?_⟩
  by_cases e : k' = k + 1
  · subst e; exact h2
  · exfalso
    have g1 := h.lt (show k < k + 1 by omega) (by omega)
    have g2 := h.lt (show k + 1 < k' by omega) h1
    have := hp.2.2.2 (tn (k + 1) - tn k) (by omega) (by omega)
    rw [show tn k + (tn (k + 1) - tn k) = tn (k + 1) by omega, h.1 (k + 1) (by omega)] at this
    exact absurd this (by simp)
/-- at most half as many turns as places -/
theorem turnsx.half (hSd : ∀ p, p < n → (S p = true ↔ slt n T p (p + 1))) (h : turnsx n S m tn) : 2 * m ≤ n := by
  have key : ∀ k, k < m → 2 * k + 1 ≤ tn k := by
    intro k
    induction k with
    | zero => intro hk; have := (LMx_iff.mp (h.1 0 hk)).1; omega
    | succ k ih =>
      intro hk
      have h1 := ih (by omega)
      have h2 := h.2.1 k hk
      have h3 := LMx_iff.mp (h.1 k (by omega))
      have h4 := LMx_iff.mp (h.1 (k + 1) hk)
      by_cases e : tn (k + 1) = tn k + 1
      · rw [e, show tn k + 1 - 1 = tn k by omega, h3.2.2.1] at h4
        exact absurd h4.2.2.2 (by simp)
      · omega
  by_cases e : m = 0
  · omega
  · have h1 := key (m - 1) (by omega)
    have h2 := LMx_iff.mp (h.1 (m - 1) (by omega))
    have h3 := slt_lt ((hSd _ h2.2.1).mp h2.2.2.1)
    omega
/-- the shorter row's order is that of the turns -/
theorem red_lt {nm : Nat → Nat} (ht : turnsx n S m tn) (h1 : ∀ p q, LMx n S p = true → LMx n S q = true → nm p < nm q → slt n T p q) (h2 : ∀ p q, LMx n S p = true → LMx n S q = true → p ≠ q → nm p = nm q → samep n T S p q) :
    ∀ (d k k' : Nat), m - k ≤ d → k < m → k' < m → slt m (fun i => nm (tn i)) k k' → slt n T (tn k) (tn k') := by
  intro d
  induction d with
  | zero => intro k k' hd hk; omega
  | succ d ih =>
    intro k k' hd hk hk' hs
    have hs0 := hs
    rw [slt_head hk hk'] at hs
    rcases hs with g | ⟨g, g2⟩
    · exact h1 _ _ (ht.1 k hk) (ht.1 k' hk') g
    · have hne : tn k ≠ tn k' := by
        intro e
        have := ht.inj hk hk' e
        subst this
        exact slt_irr hs0
      obtain ⟨d0, p1, p2, p3⟩ := h2 _ _ (ht.1 k hk) (ht.1 k' hk') hne g
      obtain ⟨a1, a2⟩ := ht.next hk p1
      obtain ⟨b1, b2⟩ := ht.next hk' p2
      have g3 := ih (k + 1) (k' + 1) (by omega) a1 b1 g2
      rw [a2, b2] at g3
      have e1 := p1.2.1
      have e2 := p2.2.1
      exact slt_move d0 (tn k) (fun i hi => ⟨by omega, by omega, (p3 i (by omega)).1⟩) g3
theorem isSA.inj {o : Nat → Option Nat} (h : isSA n T o) {j j' q : Nat} (hj : j < n) (hj' : j' < n) (h1 : o j = some q) (h2 : o j' = some q) : j = j' := by
  rcases Nat.lt_trichotomy j j' with g | g | g
  · exact (slt_irr (h.2.1 j j' q q g hj' h1 h2)).elim
  · exact g
  · exact (slt_irr (h.2.1 j' j q q g hj h2 h1)).elim
theorem isSA.one {o o' : Nat → Option Nat} (h : isSA n T o) (h' : isSA n T o') : ∀ j, j < n → o j = o' j := by
  intro j
  induction j using Nat.strongRecOn with
  | _ j ih =>
    intro hj
    obtain ⟨q, hq, e⟩ := h.1 j hj
    obtain ⟨q', hq', e'⟩ := h'.1 j hj
    by_cases he : q = q'
    · rw [e, e', he]
    · exfalso
      obtain ⟨i, hi, g⟩ := h'.2.2 q hq
      obtain ⟨i', hi', g'⟩ := h.2.2 q' hq'
      have a1 : j < i := by
        rcases Nat.lt_trichotomy i j with z | z | z
        · have := ih i z (by omega)
          rw [g] at this
          have := h.inj (by omega) hj this e
          omega
        · subst z; rw [e'] at g; exact absurd (Option.some.inj g).symm he
        · exact z
      have a2 : j < i' := by
        rcases Nat.lt_trichotomy i' j with z | z | z
        · have := ih i' z (by omega)
          rw [g'] at this
          have := h'.inj (by omega) hj this.symm e'
          omega
        · subst z; rw [e] at g'; exact absurd (Option.some.inj g') he
        · exact z
      exact slt_asymm (h.2.1 j i' q q' a2 hi' e g') (h'.2.1 j i q' q a1 hi e' g)
/-- from the order of the shorter row to that of the longer one -/
theorem level_up (hSd : ∀ p, p < n → (S p = true ↔ slt n T p (p + 1))) {K : Nat} (hK : ∀ p, p < n → T p < K) {nm : Nat → Nat} (ht : turnsx n S m tn) (h1 : ∀ p q, LMx n S p = true → LMx n S q = true → nm p < nm q → slt n T p q) (h2 : ∀ p q, LMx n S p = true → LMx n S q = true → p ≠ q → nm p = nm q → samep n T S p q)
    {o1 : Nat → Option Nat} {s1 : Nat → Nat} (ho : isSA m (fun i => nm (tn i)) o1) (hs1 : ∀ j, j < m → o1 j = some (s1 j)) : isSA n T (indx n T S m (fun i => tn (s1 i))) := by
  have hs : ∀ j, j < m → s1 j < m := by
    intro j hj
    obtain ⟨q, hq, e⟩ := ho.1 j hj
    rw [hs1 j hj] at e
    have := Option.some.inj e
    omega
  refine ind_sa hSd hK ⟨fun i hi => ⟨(LMx_iff.mp (ht.1 _ (hs i hi))).2.1, ht.1 _ (hs i hi)⟩, fun i i' hi hi' e => ?_, fun q hq hL => ?_⟩ (fun i i' hii hi' => ?_)
  · have := ht.inj (hs i hi) (hs i' hi') e
    exact ho.inj hi hi' (hs1 i hi) (by rw [hs1 i' hi', this])
  · obtain ⟨k, hk, e⟩ := ht.2.2 q hL
    obtain ⟨j, hj, e2⟩ := ho.2.2 k hk
    rw [hs1 j hj] at e2
    exact ⟨j, hj, by show tn (s1 j) = q; rw [Option.some.inj e2]; exact e⟩
  · exact red_lt ht h1 h2 m (s1 i) (s1 i') (by omega) (hs i (by omega)) (hs i' hi') (ho.2.1 i i' _ _ hii hi' (hs1 i (by omega)) (hs1 i' hi'))
end TURNS
