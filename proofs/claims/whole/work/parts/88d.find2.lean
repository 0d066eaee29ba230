/-! FIND and WHERE, both sides -/
section FN2
variable {n : Nat} {T tx st en SA rk : Nat → Nat} {cp : Nat → Option Nat} {cl : Nat → Nat} {M : xM} {m : Nat} {pt : Nat → Nat}
theorem cny_y (P : Nat → Prop) [DecidablePred P] {k : Nat} (h : P k) : cny P (k + 1) = cny P k + 1 := by
  have e : cny P (k + 1) = cny P k + (if P k then 1 else 0) := rfl
  rw [e, if_pos h]
theorem cny_n (P : Nat → Prop) [DecidablePred P] {k : Nat} (h : ¬ P k) : cny P (k + 1) = cny P k := by
  have e : cny P (k + 1) = cny P k + (if P k then 1 else 0) := rfl
  rw [e, if_neg h, Nat.add_zero]
theorem find_loop (hw : WFx n T tx st en) (hm : RBm M n T tx st SA rk) (hr : RP M m pt) (x : Int32) : ∀ (d k fuel : Nat) (o g : Option Nat) (L s : Nat), k + d = n → d < fuel → isLst (Eqp n T m pt) k o → isGst (Eqp n T m pt) k g → isMx n T m pt k L → isMsk tx (Eqp n T m pt) k s →
    ∃ o2 g2 L2 s2, fX9_find_33 fuel x (nI (cny (Eqp n T m pt) k)) (nI (cny (Lsp n T m pt) k)) (nI (popc s)) (enc o) (enc g) (nI L) (nI s) (nI k) M = fX9_find_172 x (nI (cny (Eqp n T m pt) n)) (nI (cny (Lsp n T m pt) n)) (nI (popc s2)) (enc o2) (enc g2) (nI L2) M ∧ isLst (Eqp n T m pt) n o2 ∧ isGst (Eqp n T m pt) n g2 ∧ isMx n T m pt n L2 ∧ isMsk tx (Eqp n T m pt) n s2 := by
  have hn := hw.1
  have hm4 := hr.1
  have h37 := hm.1.1
  have h12 := hr.2.2.1
  intro d
  induction d with
  | zero =>
    intro k fuel o g L s hk hf h1 h2 h3 h4
    obtain ⟨f, rfl⟩ : ∃ f, fuel = f + 1 := ⟨fuel - 1, by omega⟩
    have e : k = n := by omega
    subst e
    exact ⟨o, g, L, s, by simp (disch := omega) only [fX9_find_33_s, h37, nI_le_iff, if_pos], h1, h2, h3, h4⟩
  | succ d ih =>
    intro k fuel o g L s hk hf h1 h2 h3 h4
    obtain ⟨f, rfl⟩ : ∃ f, fuel = f + 1 := ⟨fuel - 1, by omega⟩
    have hkn : k < n := by omega
    have hma := matched_ok hw hm hr hkn
    have hle := @mt_le n T m pt k
    have hmn := mt_n (m := m) (pt := pt) hw hkn
    have hLb : L ≤ 40 := by
      rcases h3.2 with q | ⟨q, q1, q2⟩
      · omega
      · have := @mt_le n T m pt q; omega
    obtain ⟨L2, eL2⟩ : ∃ L2, L2 = if mtx n T m pt k ≤ L then L else mtx n T m pt k := ⟨_, rfl⟩
    have h3' : isMx n T m pt (k + 1) L2 := by
      rw [eL2]
      by_cases q : mtx n T m pt k ≤ L
      · rw [if_pos q]
        refine ⟨fun p hp => ?_, ?_⟩
        · rcases Nat.lt_or_ge p k with q2 | q2
          · exact h3.1 p q2
          · rw [show p = k by omega]; exact q
        · rcases h3.2 with q2 | ⟨q2, q3, q4⟩
          · exact Or.inl q2
          · exact Or.inr ⟨q2, by omega, q4⟩
      · rw [if_neg q]
        refine ⟨fun p hp => ?_, Or.inr ⟨k, by omega, rfl⟩⟩
        rcases Nat.lt_or_ge p k with q2 | q2
        · have := h3.1 p q2; omega
        · rw [show p = k by omega]; exact Nat.le_refl _
    have go64 : fX9_find_33 (f + 1) x (nI (cny (Eqp n T m pt) k)) (nI (cny (Lsp n T m pt) k)) (nI (popc s)) (enc o) (enc g) (nI L) (nI s) (nI k) M = fX9_find_64 (fX9_find_33 f) x (nI (cny (Eqp n T m pt) k)) (nI (cny (Lsp n T m pt) k)) (nI (popc s)) (enc o) (enc g) (nI s) (nI k) (nI (mtx n T m pt k)) (nI L2) M := by
      rw [eL2]
      by_cases q : mtx n T m pt k ≤ L
      · simp (disch := omega) only [fX9_find_33_s, h37, nI_le_iff, if_neg, hma, Option.bind_some, if_pos]
      · simp (disch := omega) only [fX9_find_33_s, h37, nI_le_iff, if_neg, hma, Option.bind_some]
    rw [go64]
    have h41 := (hm.1.2.1 k hkn).2
    have ht := (hw.2.1 k hkn).2.1
    by_cases gE : Eqp n T m pt k
    · have nL : ¬ Lsp n T m pt k := fun h => by have := h.1; unfold Eqp at gE; omega
      have z : nI (mtx n T m pt k) = nI m := by rw [gE]
      obtain ⟨mo, ml⟩ := mask_or s h4.1 _ ht
      have mp := mask_pop s h4.1 _ ht
      have ma := mask_at s h4.1 _ ht
      obtain ⟨o1, eo1, io1⟩ : ∃ o1, (if (0 : Int32) ≤ enc o then enc o else nI k) = enc o1 ∧ isLst (Eqp n T m pt) (k + 1) o1 := by
        cases o with
        | none => exact ⟨some k, by rw [if_neg (by decide)]; rfl, h1.new gE⟩
        | some q =>
          have hq := h1.lt
          refine ⟨some q, ?_, h1.old⟩
          have z : (0 : Int32) ≤ nI q := (nI_le_iff (a := 0) (b := q) (by omega) (by omega)).mpr (by omega)
          exact if_pos z
      obtain ⟨o2, g2, L3, s2, e1, e2⟩ := ih (k + 1) f o1 (some k) L2 (s ||| 2 ^ tx k) (by omega) (by omega) io1 (isGst.new gE) h3' (h4.new gE ht)
      refine ⟨o2, g2, L3, s2, ?_, e2⟩
      rw [← e1, cny_y _ gE, cny_n _ nL]
      have go90 : ∀ (v : Int32), fX9_find_90 (fX9_find_33 f) x (nI (cny (Eqp n T m pt) k + 1)) (nI (cny (Lsp n T m pt) k)) (nI (popc s)) (nI L2) (nI s) (nI k) v M = fX9_find_33 f x (nI (cny (Eqp n T m pt) k + 1)) (nI (cny (Lsp n T m pt) k)) (nI (popc (s ||| 2 ^ tx k))) v (nI k) (nI L2) (nI (s ||| 2 ^ tx k)) (nI (k + 1)) M := by
        intro v
        by_cases q : s.testBit (tx k) = true
        · have z2 : ¬ ((nI s) >>> (nI (tx k) &&& 31)) &&& 1 = 0 := fun h => by rw [ma.mp h] at q; cases q
          have z0 : (0 : Int32) = nI 0 := rfl
          rw [mp, if_pos q]
          simp (disch := omega) only [fX9_find_90_s, xin_nI, nI_clamp, if_pos, h41, z2, if_false, fX9_find_118_s, mo, xlt_def, fX9_find_166_s, nI_add1]
          rw [z0, nI_plus]
        · have q' : s.testBit (tx k) = false := by cases h : s.testBit (tx k) with | true => exact absurd h q | false => rfl
          have z2 : ((nI s) >>> (nI (tx k) &&& 31)) &&& 1 = 0 := ma.mpr q'
          rw [mp, if_neg q]
          simp (disch := omega) only [fX9_find_90_s, xin_nI, nI_clamp, if_pos, h41, z2, if_true, fX9_find_118_s, mo, xlt_def, fX9_find_166_s, nI_add1]
      rw [fX9_find_64_s, h12, if_pos z, nI_add1, ← eo1]
      by_cases q : (0 : Int32) ≤ enc o
      · rw [if_pos q, if_pos q, go90]; rfl
      · rw [if_neg q, if_neg q, go90]; rfl
    · have z : ¬ nI (mtx n T m pt k) = nI m := fun h => gE ((nI_eq_iff (by omega) (by omega)).mp h)
      have hlt : mtx n T m pt k < m := by unfold Eqp at gE; omega
      have h40 := (hm.1.2.1 _ hmn).1
      have hT := (hw.2.1 _ hmn).1
      obtain ⟨hp9, -, h47⟩ := hr.2.2.2 _ hlt
      obtain ⟨o2, g2, L3, s2, e1, e2⟩ := ih (k + 1) f o g L2 s (by omega) (by omega) (h1.skip gE) (h2.skip gE) h3' (h4.skip gE)
      refine ⟨o2, g2, L3, s2, ?_, e2⟩
      rw [← e1, cny_n _ gE]
      by_cases gL : Lsp n T m pt k
      · have z2 : ¬ nI (pt (mtx n T m pt k)) ≤ wM (T (k + mtx n T m pt k)) := by
          rw [← wM_p, wM_le (by omega) (by omega)]
          have := gL.2
          split <;> omega
        rw [cny_y _ gL]
        simp (disch := omega) only [fX9_find_64_s, h12, z, if_false, nI_plus, xin_nI, nI_clamp, if_pos, h40, h47, z2, fX9_find_164_s, fX9_find_166_s, nI_add1]
      · have z2 : nI (pt (mtx n T m pt k)) ≤ wM (T (k + mtx n T m pt k)) := by
          rw [← wM_p, wM_le (by omega) (by omega)]
          have : ¬ T (k + mtx n T m pt k) < pt (mtx n T m pt k) + 8 := fun h => gL ⟨hlt, h⟩
          split <;> omega
        rw [cny_n _ gL]
        have z0 : (0 : Int32) = nI 0 := rfl
        simp (disch := omega) only [fX9_find_64_s, h12, z, if_false, nI_plus, xin_nI, nI_clamp, if_pos, h40, h47, z2, fX9_find_164_s, fX9_find_166_s, nI_add1]
        rw [z0, nI_plus]
        rfl
theorem find_ok (hc : RBc M n T tx st en SA rk cp cl) (hm : RBm M n T tx st SA rk) (hr : RP M m pt) (x : Int32) : ∃ r, fX8_find x M = some r ∧ fX9_find x M = some r := by
  have hn := hc.1.1
  have hP := hc.2.1
  obtain ⟨a, b, hab, hb, r1, r2, hE, hL⟩ := reach_ok hc hr
  obtain ⟨o, g, L, s, f1, f2, f3, f4, f5⟩ := find_loop hc.1 hm hr x n 0 4096 none none 0 0 (by omega) (by omega) (Or.inl ⟨rfl, fun p hp => by omega⟩) (Or.inl ⟨rfl, fun p hp => by omega⟩) ⟨fun p hp => by omega, Or.inl rfl⟩ isMsk.zero
  have f1' : fX9_find_33 4096 x 0 0 0 (-1) (-1) 0 0 0 M = fX9_find_172 x (nI (cny (Eqp n T m pt) n)) (nI (cny (Lsp n T m pt) n)) (nI (popc s)) (enc o) (enc g) (nI L) M := f1
  have c0 : cny (Eqp n T m pt) n = b - a := cny_rng hP (a := a) (b - a) _ (by omega) (fun p hp => by rw [hE p hp]; omega)
  have c1 : cny (Lsp n T m pt) n = a := cny_rng hP (a := 0) a _ (by omega) hL
  obtain ⟨s', t1, t2⟩ := texts_ok hc hab hb hE
  obtain ⟨o', l1, l2⟩ := least_ok hc hab hb hE
  obtain ⟨g', k1, k2⟩ := great_ok hc hab hb hE
  obtain ⟨L', b1, b2⟩ := begin_ok hc hr hab hb hE hL
  rw [t2.one f5] at t1
  rw [l2.one f2] at l1
  rw [k2.one f3] at k1
  rw [b2.one f4] at b1
  by_cases x0 : x < 0
  · have d : ∀ j, j ≤ 5 → ¬ x = nI j := fun j hj h => by subst h; exact absurd x0 (nI_pos (by omega))
    have d0 : ¬ x = 0 := d 0 (by omega)
    have d1 : ¬ x = 1 := d 1 (by omega)
    have d2 : ¬ x = 2 := d 2 (by omega)
    have d3 : ¬ x = 3 := d 3 (by omega)
    have d4 : ¬ x = 4 := d 4 (by omega)
    have d5 : ¬ x = 5 := d 5 (by omega)
    exact ⟨-1, by simp only [fX8_find_s, r1, r2, Option.bind_some, d0, d1, d2, d3, d4, d5, if_false], by rw [fX9_find_s, if_pos x0]⟩
  · have e5 : (5 : Int32) = nI 5 := rfl
    by_cases x5 : x ≤ 5
    · obtain ⟨c, hc5, hx⟩ := le_ex (k := 5) (by omega) x0 x5
      have hcs : c = 0 ∨ c = 1 ∨ c = 2 ∨ c = 3 ∨ c = 4 ∨ c = 5 := by omega
      have hmod : ∀ r, fX9_find_172 x (nI (cny (Eqp n T m pt) n)) (nI (cny (Lsp n T m pt) n)) (nI (popc s)) (enc o) (enc g) (nI L) M = some r → fX9_find x M = some r := fun r h => by rw [fX9_find_s, if_neg x0, if_pos x5, f1']; exact h
      have w1 : ¬ (1 : Int32) = 0 := by decide
      have w2 : ¬ (2 : Int32) = 0 := by decide
      have w3 : ¬ (3 : Int32) = 0 := by decide
      have w4 : ¬ (4 : Int32) = 0 := by decide
      have w5 : ¬ (5 : Int32) = 0 := by decide
      have v2 : ¬ (2 : Int32) = 1 := by decide
      have v3 : ¬ (3 : Int32) = 1 := by decide
      have v4 : ¬ (4 : Int32) = 1 := by decide
      have v5 : ¬ (5 : Int32) = 1 := by decide
      have u3 : ¬ (3 : Int32) = 2 := by decide
      have u4 : ¬ (4 : Int32) = 2 := by decide
      have u5 : ¬ (5 : Int32) = 2 := by decide
      have t4 : ¬ (4 : Int32) = 3 := by decide
      have t5 : ¬ (5 : Int32) = 3 := by decide
      have s5 : ¬ (5 : Int32) = 4 := by decide
      rw [c0, c1] at hmod
      rcases hcs with rfl | rfl | rfl | rfl | rfl | rfl
      · have hx' : x = 0 := hx
        subst hx'
        exact ⟨nI (b - a), by simp (disch := omega) only [fX8_find_s, r1, r2, Option.bind_some, if_true, nI_sub], hmod _ (by rw [fX9_find_172_s, if_pos rfl])⟩
      · have hx' : x = 1 := hx
        subst hx'
        exact ⟨nI a, by simp only [fX8_find_s, r1, r2, Option.bind_some, if_true, w1, if_false], hmod _ (by rw [fX9_find_172_s, if_neg w1, if_pos rfl])⟩
      · have hx' : x = 2 := hx
        subst hx'
        exact ⟨nI (popc s), by simp only [fX8_find_s, r1, r2, Option.bind_some, if_true, w2, v2, if_false, t1], hmod _ (by rw [fX9_find_172_s, if_neg w2, if_neg v2, if_pos rfl])⟩
      · have hx' : x = 3 := hx
        subst hx'
        exact ⟨enc o, by simp only [fX8_find_s, r1, r2, Option.bind_some, if_true, w3, v3, u3, if_false, l1], hmod _ (by rw [fX9_find_172_s, if_neg w3, if_neg v3, if_neg u3, if_pos rfl])⟩
      · have hx' : x = 4 := hx
        subst hx'
        exact ⟨enc g, by simp only [fX8_find_s, r1, r2, Option.bind_some, if_true, w4, v4, u4, t4, if_false, k1], hmod _ (by rw [fX9_find_172_s, if_neg w4, if_neg v4, if_neg u4, if_neg t4, if_pos rfl])⟩
      · have hx' : x = 5 := hx
        subst hx'
        exact ⟨nI L, by simp only [fX8_find_s, r1, r2, Option.bind_some, if_true, w5, v5, u5, t5, s5, if_false, b1], hmod _ (by rw [fX9_find_172_s, if_neg w5, if_neg v5, if_neg u5, if_neg t5, if_neg s5])⟩
    · have d : ∀ j, j ≤ 5 → ¬ x = nI j := fun j hj h => by subst h; exact x5 ((nI_le_iff (a := j) (b := 5) (by omega) (by omega)).mpr hj)
      have d0 : ¬ x = 0 := d 0 (by omega)
      have d1 : ¬ x = 1 := d 1 (by omega)
      have d2 : ¬ x = 2 := d 2 (by omega)
      have d3 : ¬ x = 3 := d 3 (by omega)
      have d4 : ¬ x = 4 := d 4 (by omega)
      have d5 : ¬ x = 5 := d 5 (by omega)
      exact ⟨-1, by simp only [fX8_find_s, r1, r2, Option.bind_some, d0, d1, d2, d3, d4, d5, if_false], by rw [fX9_find_s, if_neg x0, if_neg x5]⟩
theorem where_loop (hc : RBc M n T tx st en SA rk cp cl) (hm : RBm M n T tx st SA rk) (hr : RP M m pt) {a b kk : Nat} (hab : a ≤ b) (hb : b ≤ n) (hkk : kk < 2147483648) (hE : ∀ p, p < n → (Eqp n T m pt p ↔ a ≤ rk p ∧ rk p < b)) : ∀ (d p c l fuel : Nat), p + d = n → l + c = kk → d < fuel → ∃ r, fX2_placeOf_18 fuel (nI a) (nI b) (nI l) (nI p) M = some r ∧ fX9_where_4 fuel (nI kk) (nI c) (nI p) M = some r := by
  have hn := hc.1.1
  have hm4 := hr.1
  have h4 := hc.2.2.1.1.1
  have h37 := hm.1.1
  have h12 := hr.2.2.1
  intro d
  induction d with
  | zero =>
    intro p c l fuel hp hl hf
    obtain ⟨f, rfl⟩ : ∃ f, fuel = f + 1 := ⟨fuel - 1, by omega⟩
    exact ⟨-1, by simp (disch := omega) only [fX2_placeOf_18_s, h4, nI_le_iff, if_pos], by simp (disch := omega) only [fX9_where_4_s, h37, nI_le_iff, if_pos]⟩
  | succ d ih =>
    intro p c l fuel hp hl hf
    obtain ⟨f, rfl⟩ : ∃ f, fuel = f + 1 := ⟨fuel - 1, by omega⟩
    have hpn : p < n := by omega
    have hma := matched_ok hc.1 hm hr hpn
    have hle := @mt_le n T m pt p
    have h11 := hc.2.2.1.2.2.1 p hpn
    have hrk := (hc.2.1.2.1 p hpn).1
    have zk : ¬ nI kk < 0 := nI_pos hkk
    by_cases g : Eqp n T m pt p
    · have hi := (hE p hpn).mp g
      have z : nI (mtx n T m pt p) = nI m := by rw [g]
      by_cases g2 : l = 0
      · have z2 : nI c = nI kk := by rw [← hl, g2, Nat.zero_add]
        have z3 : nI l = 0 := by rw [g2]; rfl
        exact ⟨nI p, by simp (disch := omega) only [fX2_placeOf_18_s, h4, nI_le_iff, nI_lt_iff, if_neg, xin_nI, nI_clamp, if_pos, h11, z3, if_true], by simp (disch := omega) only [fX9_where_4_s, h37, nI_le_iff, if_neg, zk, if_false, hma, Option.bind_some, h12, z, z2, if_true]⟩
      · have z2 : ¬ nI c = nI kk := fun h => by have := (nI_eq_iff (by omega) (by omega)).mp h; omega
        have z3 : ¬ nI l = 0 := fun h => g2 ((nI_eq0 (by omega)).mp h)
        obtain ⟨r, e1, e2⟩ := ih (p + 1) (c + 1) (l - 1) f (by omega) (by omega) (by omega)
        exact ⟨r, by simp (disch := omega) only [fX2_placeOf_18_s, h4, nI_le_iff, nI_lt_iff, if_neg, xin_nI, nI_clamp, if_pos, h11, z3, if_false, fX2_placeOf_69_s, nI_addm1, nI_m1, nI_add1, e1], by simp (disch := omega) only [fX9_where_4_s, h37, nI_le_iff, if_neg, zk, if_false, hma, Option.bind_some, h12, z, z2, if_true, fX9_where_38_s, nI_add1, e2]⟩
    · have z : ¬ nI (mtx n T m pt p) = nI m := fun h => g ((nI_eq_iff (by omega) (by omega)).mp h)
      have hi : ¬ (a ≤ rk p ∧ rk p < b) := fun h => g ((hE p hpn).mpr h)
      obtain ⟨r, e1, e2⟩ := ih (p + 1) c l f (by omega) (by omega) (by omega)
      refine ⟨r, ?_, by simp (disch := omega) only [fX9_where_4_s, h37, nI_le_iff, if_neg, zk, if_false, hma, Option.bind_some, h12, z, fX9_where_38_s, nI_add1, e2]⟩
      by_cases g2 : rk p < a
      · simp (disch := omega) only [fX2_placeOf_18_s, h4, nI_le_iff, nI_lt_iff, if_neg, xin_nI, nI_clamp, if_pos, h11, fX2_placeOf_69_s, nI_add1, e1]
      · have g3 : b ≤ rk p := by omega
        simp (disch := omega) only [fX2_placeOf_18_s, h4, nI_le_iff, nI_lt_iff, if_neg, xin_nI, nI_clamp, if_pos, h11, fX2_placeOf_69_s, nI_add1, e1]
theorem where_ok (hc : RBc M n T tx st en SA rk cp cl) (hm : RBm M n T tx st SA rk) (hr : RP M m pt) (x : Int32) : ∃ r, fX8_where x M = some r ∧ fX9_where x M = some r := by
  have hn := hc.1.1
  have h37 := hm.1.1
  by_cases x0 : x < 0
  · have z : ¬ (0 : Int32) ≤ x := by
      rw [Int32.lt_iff_toInt_lt] at x0
      rw [Int32.le_iff_toInt_le]
      omega
    refine ⟨-1, by rw [fX8_where_s, if_neg z], ?_⟩
    rw [fX9_where_s, show (4096 : Nat) = 4095 + 1 from rfl, fX9_where_4_s, h37]
    by_cases g : nI n ≤ 0
    · rw [if_pos g]
    · rw [if_neg g, if_pos x0]
  · obtain ⟨kk, hkk, rfl⟩ := nn_ex x0
    obtain ⟨a, b, hab, hb, r1, r2, hE, hL⟩ := reach_ok hc hr
    have z : (0 : Int32) ≤ nI kk := (nI_le_iff (a := 0) (b := kk) (by omega) (by omega)).mpr (by omega)
    obtain ⟨r, e1, e2⟩ := where_loop hc hm hr hab hb hkk hE n 0 0 kk 4096 (by omega) (by omega) (by omega)
    have e1' : fX2_placeOf_18 4096 (nI a) (nI b) (nI kk) 0 M = some r := e1
    refine ⟨r, ?_, by rw [fX9_where_s]; exact e2⟩
    rw [fX8_where_s, if_pos z, fX2_placeOf_s, r1, Option.bind_some, r2, Option.bind_some, e1', Option.bind_some]
end FN2
